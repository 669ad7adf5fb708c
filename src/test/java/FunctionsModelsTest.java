/** Promises 33 to 36: function, models, model, count. */
public final class FunctionsModelsTest {
    private static final int EMPTY = AlgebraCabinet.EMPTY, OUTSIDE = AlgebraCabinet.OUTSIDE;
    private static final int UNFIT = AlgebraCabinet.UNFIT, NONE = AlgebraCabinet.NONE, MANY = AlgebraCabinet.MANY;

    public static void main(String[] args) {
        function();
        manyFunctions();
        models();
        modelsOfLaws();
        model();
        modelRefusals();
        count();
        Due.finish();
    }

    private static void function() {
        AlgebraCabinet cabinet = new AlgebraCabinet();
        Due.due("function OUTSIDE", cabinet.function(8, 0), OUTSIDE);
        Due.due("function EMPTY", cabinet.function(0, -9), EMPTY);
        cabinet.make(0, 7, 0);
        Due.due("x alone", cabinet.function(0, NONE), 1);
        Due.due("x alone", cabinet.function(0, 0), Due.line("0123456"));
        Due.due("behind the last", cabinet.function(0, 1), OUTSIDE);
        Due.due("function -2", cabinet.function(0, -2), OUTSIDE);
        Due.due("function greatest", cabinet.function(0, Integer.MAX_VALUE), OUTSIDE);
        Due.read(cabinet, 1, "4;c3;u1230");
        String[] lines = {"0000", "0123", "1111", "1230", "2222", "2301", "3012", "3333"};
        Due.due("functions", cabinet.function(1, NONE), lines.length);
        for (int k = 0; k < lines.length; k++) {
            Due.due("function " + k, cabinet.function(1, k), Due.line(lines[k]));
        }
        Due.due("behind the last", cabinet.function(1, lines.length), OUTSIDE);
        Due.read(cabinet, 2, "2;b1110");
        Due.due("functions of nand", cabinet.function(2, NONE), 4);
        Due.read(cabinet, 3, "2;b0001");
        Due.due("functions of and", cabinet.function(3, NONE), 1);
        Due.read(cabinet, 4, "3;b000012021");
        Due.due("functions of a product", cabinet.function(4, NONE), 2);
        Due.due("x times x", cabinet.function(4, 0), Due.line("011"));
        Due.read(cabinet, 5, "3;b021102210");
        Due.due("functions by rows", cabinet.function(5, NONE), 3);
        Due.read(cabinet, 6, "1;b0;c0;u0");
        Due.due("functions of one element", cabinet.function(6, NONE), 1);
        Due.due("function is no change", cabinet.count(2), 7);
    }

    private static void manyFunctions() {
        AlgebraCabinet cabinet = new AlgebraCabinet();
        // the successor, and the greater one with the successor's turn: all functions of four elements are 256
        Due.read(cabinet, 0, "4;b" + "1230" + "2230" + "3330" + "0000");
        Due.due("all functions of four", cabinet.function(0, NONE), 256);
        for (int k = 0; k < 256; k++) {
            int line = (k >> 6) * 343 + (k >> 4 & 3) * 49 + (k >> 2 & 3) * 7 + (k & 3);
            Due.due("function " + k, cabinet.function(0, k), line);
        }
        Due.due("behind the last", cabinet.function(0, 256), OUTSIDE);
        Due.read(cabinet, 2, "7;u6320000;u1431614;u4435331");
        Due.due("300 functions", cabinet.function(2, NONE), 300);
        Due.due("behind the last", cabinet.function(2, 300), OUTSIDE);
        Due.read(cabinet, 3, "6;u333122;u353050;u455015");
        Due.due("301 functions", cabinet.function(3, NONE), MANY);
        Due.read(cabinet, 1, "5;b" + "12340" + "22340" + "33340" + "44440" + "00000");
        Due.due("all functions of five", cabinet.function(1, NONE), MANY);
        Due.due("MANY ahead of OUTSIDE", cabinet.function(1, -2), MANY);
        Due.due("MANY of function 0", cabinet.function(1, 0), MANY);
        Due.due("the next call is as ever", cabinet.function(0, NONE), 256);
    }

    private static void models() {
        AlgebraCabinet cabinet = new AlgebraCabinet();
        Due.laws(cabinet, 0, "x=x");
        Due.laws(cabinet, 1, "x=y");
        int[][] rows = {
            // size, arities, models, forms
            {1, 0, 1, 1}, {7, 0, 1, 1}, {1, 3333, 1, 1}, {1, 1231, 1, 1}, {2, 3, 16, 10}, {3, 3, 19683, 3330},
            {2, 2, 4, 3}, {3, 2, 27, 7}, {4, 2, 256, 19}, {5, 2, 3125, 47}, {6, 2, 46656, 130}, {7, 1, 7, 1},
            {7, 11, 49, 2}, {7, 111, 343, 5}, {7, 1111, 2401, 15}, {2, 1111, 16, 8}, {3, 1111, 81, 14},
            {2, 33, 256, 136}, {2, 2333, 16384, 8256}, {3, 13, 59049, 9882}, {3, 31, 59049, 9882}};
        for (int[] row : rows) {
            String call = "models " + row[0] + " " + row[1];
            Due.due(call, cabinet.models(row[0], row[1], 0, false), row[2]);
            Due.due(call + " forms", cabinet.models(row[0], row[1], 0, true), row[3]);
            Due.due(call + " of x=y", cabinet.models(row[0], row[1], 1, true), row[0] == 1 ? 1 : 0);
        }
        Due.due("60,000 at most: 3 to the power of 11", cabinet.models(3, 113, 0, true), MANY);
        Due.due("60,000 at most: 4 to the power of 16", cabinet.models(4, 3, 0, true), MANY);
        Due.due("60,000 at most: 2 to the power of 16", cabinet.models(2, 3333, 0, true), MANY);
        Due.due("60,000 at most: 7 to the power of 7", cabinet.models(7, 2, 0, false), MANY);
        Due.due("60,000 at most: 7 to the power of 196", cabinet.models(7, 3333, 0, false), MANY);
        Due.due("4 to the power of 7", cabinet.models(4, 1112, 0, false), 16384);
        Due.due("6 to the power of 7", cabinet.models(6, 12, 0, false), MANY);
        Due.due("models is no change", cabinet.count(2), 0);
    }

    private static void modelsOfLaws() {
        AlgebraCabinet cabinet = new AlgebraCabinet();
        Object[][] rows = {
            // semigroups, commutative ones, monoids with their unit, groups, bands, semilattices, loops' cancelling
            {"a(a(x,y),z)=a(x,a(y,z))", 3, 3, 113, 24}, {"a(a(x,y),z)=a(x,a(y,z))", 2, 3, 8, 5},
            {"a(a(x,y),z)=a(x,a(y,z));a(x,y)=a(y,x)", 3, 3, 63, 12}, {"a(x,y)=a(y,x)", 3, 3, 729, 129},
            {"a(a(x,y),z)=a(x,a(y,z));a(x,b)=x;a(b,x)=x", 3, 13, 33, 7},
            {"a(x,x)=x;a(a(x,y),z)=a(x,a(y,z));a(x,y)=a(y,x)", 3, 3, 9, 2},
            {"a(x,y)=a(x,z)>y=z;a(y,x)=a(z,x)>y=z", 3, 3, 12, 5}, {"a(a(x))=x", 5, 2, 26, 3}, {"a(a(x))=x", 6, 2, 76, 4},
            {"a(a(x))=a(x)", 4, 2, 41, 5}, {"a(x)=a(y)>x=y", 6, 2, 720, 11}, {"a=b", 7, 1111, 343, 5},
            {"a(x)=x>x=y", 2, 2, 1, 1}, {"a(x)=b;x=y", 1, 12, 1, 1}, {"a(x)=b", 4, 12, 4, 1}};
        for (Object[] row : rows) {
            Due.laws(cabinet, 0, (String) row[0]);
            Due.due("models of " + row[0], cabinet.models((Integer) row[1], (Integer) row[2], 0, false), (Integer) row[3]);
            Due.due("forms of " + row[0], cabinet.models((Integer) row[1], (Integer) row[2], 0, true), (Integer) row[4]);
        }
    }

    private static void model() {
        AlgebraCabinet cabinet = new AlgebraCabinet();
        Due.laws(cabinet, 0, "x=x");
        int forms = 0;
        for (int k = 0; k < 27; k++) {
            Due.read(cabinet, 1, "3;u" + k / 9 + k / 3 % 3 + k % 3);
            cabinet.least(1, 2);
            if (cabinet.alike(1, 2) == 2) {
                Due.due("model " + forms, cabinet.model(3, 2, 0, forms, 0), cabinet.map(1, 1, 3, NONE));
                Due.due("model " + forms, cabinet.alike(0, 1), 2);
                forms++;
            }
        }
        Due.due("forms", forms, 7);
        Due.due("the first", cabinet.model(3, 2, 0, 0, 0), 2);
        Due.dueText("the first", Due.told(cabinet, 0), "3;u000");
        Due.due("the last", cabinet.model(3, 2, 0, 6, 0), 3);
        Due.dueText("the last", Due.told(cabinet, 0), "3;u120");
        Due.due("behind the last", cabinet.model(3, 2, 0, 7, 0), OUTSIDE);
        Due.dueText("behind the last", Due.told(cabinet, 0), "3;u120");
        Due.due("undo of model", cabinet.undo(), 0);
        Due.dueText("undo of model", Due.told(cabinet, 0), "3;u000");
        Due.due("model without cells", cabinet.model(7, 0, 0, 0, 7), 5040);
        Due.dueText("model without cells", Due.told(cabinet, 7), "7");
        Due.laws(cabinet, 1, "a(a(x,y),z)=a(x,a(y,z));a(x,b(x))=c;a(x,c)=x");
        Due.due("groups of two", cabinet.models(2, 123, 1, false), 2);
        Due.due("groups of two, one form", cabinet.models(2, 123, 1, true), 1);
        Due.due("group of two", cabinet.model(2, 123, 1, 0, 4), 1);
        Due.dueText("group of two", Due.told(cabinet, 4), "2;b0110;u01;c0");
        Due.due("no other form", cabinet.model(2, 123, 1, 1, 4), OUTSIDE);
    }

    private static void modelRefusals() {
        AlgebraCabinet cabinet = new AlgebraCabinet();
        tryBoth(cabinet, 2, 3, 4, OUTSIDE);
        tryBoth(cabinet, 2, 3, -1, OUTSIDE);
        tryBoth(cabinet, 9, 9, 0, EMPTY);
        Due.laws(cabinet, 0, "a(x,y)=a(y,x)");
        Due.due("model OUTSIDE of to", cabinet.model(2, 3, 0, 0, 8), OUTSIDE);
        Due.due("model OUTSIDE of to", cabinet.model(2, 3, 0, 0, -1), OUTSIDE);
        Due.due("model OUTSIDE of to ahead of EMPTY", cabinet.model(2, 3, 1, 0, 8), OUTSIDE);
        for (int[] w : new int[][] {{0, 3}, {8, 3}, {2, -1}, {2, 4}, {2, 30}, {2, 33333}, {8, 2}}) {
            tryBoth(cabinet, w[0], w[1], 0, OUTSIDE);
        }
        tryBoth(cabinet, 2, 2, 0, UNFIT);
        tryBoth(cabinet, 2, 0, 0, UNFIT);
        tryBoth(cabinet, 7, 3331, 0, UNFIT);
        tryBoth(cabinet, 7, 3333, 0, MANY);
        Due.due("model MANY ahead of OUTSIDE", cabinet.model(4, 3, 0, -5, 0), MANY);
        Due.due("model NONE", cabinet.model(2, 3, 0, NONE, 0), OUTSIDE);
        Due.due("model least", cabinet.model(2, 3, 0, Integer.MIN_VALUE, 0), OUTSIDE);
        Due.due("model greatest", cabinet.model(2, 3, 0, Integer.MAX_VALUE, 0), OUTSIDE);
        Due.due("refused models are no changes", cabinet.count(2), 0);
        Due.due("drawer 0", cabinet.about(0, 0), EMPTY);
    }

    private static void tryBoth(AlgebraCabinet cabinet, int size, int arities, int list, int want) {
        Due.due("models refused", cabinet.models(size, arities, list, true), want);
        Due.due("models refused", cabinet.models(size, arities, list, false), want);
        Due.due("model refused", cabinet.model(size, arities, list, 0, 0), want);
    }

    private static void count() {
        AlgebraCabinet cabinet = new AlgebraCabinet();
        cabinet.make(0, 2, 3);
        cabinet.make(0, 3, 3);
        cabinet.make(5, 2, 3);
        Due.laws(cabinet, 2, "x=x");
        Due.type(cabinet, "x=");
        cabinet.tell(0);
        int[] due = {2, 12, 3, 2, 1};
        for (int what = 0; what < due.length; what++) {
            Due.due("count " + what, cabinet.count(what), due[what]);
        }
        Due.due("count 5", cabinet.count(5), OUTSIDE);
        Due.due("count -1", cabinet.count(-1), OUTSIDE);
        Due.due("count least", cabinet.count(Integer.MIN_VALUE), OUTSIDE);
    }
}
