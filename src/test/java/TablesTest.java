/** Promises 5 to 13: make, set, cell, stamp, about, drop, tell, read, undo. */
public final class TablesTest {
    private static final int EMPTY = AlgebraCabinet.EMPTY, OUTSIDE = AlgebraCabinet.OUTSIDE;
    private static final int CAST = AlgebraCabinet.CAST, INDEX = AlgebraCabinet.INDEX, NONE = AlgebraCabinet.NONE;

    public static void main(String[] args) {
        make();
        set();
        cell();
        stamp();
        about();
        drop();
        tellAndRead();
        readFaults();
        undo();
        undoTakesBackEachKind();
        Due.finish();
    }

    private static void make() {
        AlgebraCabinet cabinet = new AlgebraCabinet();
        Due.due("make", cabinet.make(0, 3, 321), 1 + 3 + 9);
        Due.dueText("make", Due.told(cabinet, 0), "3;c0;u000;b000000000");
        Due.due("make of most cells", cabinet.make(7, 7, 3333), 196);
        Due.due("make of no operations", cabinet.make(1, 7, 0), 0);
        Due.due("make of one cell each", cabinet.make(1, 1, 1231), 4);
        Due.due("make anew", cabinet.make(0, 2, 2), 2);
        Due.dueText("make anew", Due.told(cabinet, 0), "2;u00");
        int[][] wrong = {{-1, 3, 3}, {8, 3, 3}, {0, 0, 3}, {0, 8, 3}, {0, -1, 3}, {0, 3, -1}, {0, 3, 4}, {0, 3, 9},
            {0, 3, 10}, {0, 3, 301}, {0, 3, 13333}, {0, 3, 11111}, {0, 3, 3433}, {0, 3, Integer.MAX_VALUE},
            {0, 3, Integer.MIN_VALUE}, {0, Integer.MAX_VALUE, 3}, {Integer.MIN_VALUE, 3, 3}, {0, 3, 30000}};
        int kept = cabinet.count(2);
        for (int[] w : wrong) {
            Due.due("make " + w[0] + " " + w[1] + " " + w[2], cabinet.make(w[0], w[1], w[2]), OUTSIDE);
        }
        Due.due("refused makes are no changes", cabinet.count(2), kept);
        Due.dueText("refused makes", Due.told(cabinet, 0), "2;u00");
        AlgebraCabinet used = new AlgebraCabinet();
        Due.read(used, 0, "2;b1111");
        used.make(0, 2, 3);
        Due.dueText("make has 0 in all cells", Due.told(used, 0), "2;b0000");
    }

    private static void set() {
        AlgebraCabinet cabinet = new AlgebraCabinet();
        Due.due("set of nothing", cabinet.set(0, 0, 0, 0, 0), EMPTY);
        cabinet.make(0, 3, 321);
        Due.due("set of arity 0", cabinet.set(0, 0, -5, 99, 2), 0);
        Due.due("set of arity 1", cabinet.set(0, 1, 2, 99, 1), 0);
        Due.due("set of arity 2", cabinet.set(0, 2, 1, 2, 2), 0);
        Due.due("set again", cabinet.set(0, 2, 1, 2, 1), 2);
        Due.due("set the same", cabinet.set(0, 2, 1, 2, 1), 1);
        Due.dueText("set", Due.told(cabinet, 0), "3;c2;u001;b000001000");
        Due.due("count(2)", cabinet.count(2), 6);
        int[][] wrong = {{8, 0, 0, 0, 0}, {-1, 0, 0, 0, 0}, {0, 3, 0, 0, 0}, {0, -1, 0, 0, 0}, {0, 0, 0, 0, 3},
            {0, 0, 0, 0, -1}, {0, 1, 3, 0, 0}, {0, 1, -1, 0, 0}, {0, 1, 0, 0, 3}, {0, 2, 3, 0, 0}, {0, 2, 0, 3, 0},
            {0, 2, 0, -1, 0}, {0, 2, -1, 0, 0}, {0, 2, 0, 0, 3}, {0, 2, 0, 0, -1}};
        for (int[] w : wrong) {
            Due.due("wrong set", cabinet.set(w[0], w[1], w[2], w[3], w[4]), OUTSIDE);
        }
        Due.due("refused sets are no changes", cabinet.count(2), 6);
        Due.dueText("refused sets", Due.told(cabinet, 0), "3;c2;u001;b000001000");
    }

    private static void cell() {
        AlgebraCabinet cabinet = new AlgebraCabinet();
        Due.due("cell of nothing", cabinet.cell(0, 9, 9, 9, 9), EMPTY);
        Due.read(cabinet, 0, "3;c2;u120;b012120201");
        Due.due("cell of arity 0", cabinet.cell(0, 0, 0, 9, -9), 2);
        Due.due("cell of arity 1", cabinet.cell(0, 1, 1, 1, -9), 2);
        Due.due("cell of arity 2", cabinet.cell(0, 2, 2, 2, 1), 0);
        Due.due("cell of arity 2", cabinet.cell(0, 2, 2, 1, 2), 0);
        Due.due("cell of arity 2", cabinet.cell(0, 2, 2, 2, 2), 1);
        Due.due("cell OUTSIDE", cabinet.cell(8, 0, 0, 0, 0), OUTSIDE);
        Due.due("cell OUTSIDE", cabinet.cell(0, 3, 2, 0, 0), OUTSIDE);
        Due.due("cell OUTSIDE", cabinet.cell(0, -1, 2, 0, 0), OUTSIDE);
        Due.due("cell OUTSIDE", cabinet.cell(0, 2, 3, 9, 9), OUTSIDE);
        Due.due("cell OUTSIDE", cabinet.cell(0, 2, -1, 9, 9), OUTSIDE);
        Due.due("cell CAST ahead of INDEX", cabinet.cell(0, 2, 1, 9, 9), CAST);
        Due.due("cell CAST", cabinet.cell(0, 1, 2, 0, 0), CAST);
        Due.due("cell CAST", cabinet.cell(0, 0, 1, 0, 0), CAST);
        Due.due("cell INDEX", cabinet.cell(0, 2, 2, 3, 0), INDEX);
        Due.due("cell INDEX", cabinet.cell(0, 2, 2, 0, 3), INDEX);
        Due.due("cell INDEX", cabinet.cell(0, 2, 2, -1, 0), INDEX);
        Due.due("cell INDEX", cabinet.cell(0, 2, 2, 0, -1), INDEX);
        Due.due("cell INDEX", cabinet.cell(0, 1, 1, 3, 0), INDEX);
        Due.due("cell INDEX", cabinet.cell(0, 1, 1, -1, 0), INDEX);
        Due.due("cell is no change", cabinet.count(2), 1);
    }

    private static void stamp() {
        AlgebraCabinet cabinet = new AlgebraCabinet();
        Due.due("stamp of nothing", cabinet.stamp(0, 0, 0, 0, 0), EMPTY);
        Due.read(cabinet, 0, "3;u210;b012120201");
        Due.due("stamp", cabinet.stamp(0, 1, 2, 0, 2), 2);
        Due.dueText("stamp", Due.told(cabinet, 0), "3;u210;b202120201");
        Due.due("stamp of a whole row", cabinet.stamp(0, 1, 1, 2, 3), 3);
        Due.dueText("stamp of a whole row", Due.told(cabinet, 0), "3;u210;b202120120");
        Due.due("stamp of the same row", cabinet.stamp(0, 1, 1, 1, 3), 3);
        Due.due("stamp of no cells", cabinet.stamp(0, 1, 1, 0, 0), 0);
        Due.dueText("stamp of no cells", Due.told(cabinet, 0), "3;u210;b202120120");
        Due.due("stamps are changes", cabinet.count(2), 5);
        Due.due("stamp OUTSIDE", cabinet.stamp(-1, 1, 0, 0, 0), OUTSIDE);
        Due.due("stamp OUTSIDE", cabinet.stamp(0, 2, 9, 0, 0), OUTSIDE);
        Due.due("stamp OUTSIDE", cabinet.stamp(0, -1, 9, 0, 0), OUTSIDE);
        Due.due("stamp CAST ahead of INDEX", cabinet.stamp(0, 0, 9, 0, 0), CAST);
        Due.due("stamp INDEX", cabinet.stamp(0, 1, 3, 0, 0), INDEX);
        Due.due("stamp INDEX", cabinet.stamp(0, 1, -1, 0, 0), INDEX);
        Due.due("stamp INDEX", cabinet.stamp(0, 1, 0, 3, 0), INDEX);
        Due.due("stamp INDEX", cabinet.stamp(0, 1, 0, -1, 0), INDEX);
        Due.due("stamp INDEX", cabinet.stamp(0, 1, 0, 0, 4), INDEX);
        Due.due("stamp INDEX", cabinet.stamp(0, 1, 0, 0, -1), INDEX);
        Due.due("refused stamps are no changes", cabinet.count(2), 5);
    }

    private static void about() {
        AlgebraCabinet cabinet = new AlgebraCabinet();
        Due.due("about OUTSIDE", cabinet.about(8, 0), OUTSIDE);
        Due.due("about EMPTY ahead of OUTSIDE", cabinet.about(7, 9), EMPTY);
        Due.read(cabinet, 7, "4;c3;b0000000100200003;u0010");
        Due.due("size", cabinet.about(7, 0), 4);
        Due.due("arities", cabinet.about(7, 1), 231);
        Due.due("cells", cabinet.about(7, 2), 21);
        Due.due("other than 0", cabinet.about(7, 3), 5);
        Due.due("about(4)", cabinet.about(7, 4), OUTSIDE);
        Due.due("about(-1)", cabinet.about(7, -1), OUTSIDE);
        cabinet.make(0, 5, 0);
        Due.due("arities of none", cabinet.about(0, 1), 0);
        Due.due("cells of none", cabinet.about(0, 2), 0);
        Due.due("other cells of none", cabinet.about(0, 3), 0);
    }

    private static void drop() {
        AlgebraCabinet cabinet = new AlgebraCabinet();
        Due.due("drop OUTSIDE", cabinet.drop(-1), OUTSIDE);
        Due.due("drop OUTSIDE", cabinet.drop(8), OUTSIDE);
        Due.due("drop EMPTY", cabinet.drop(0), EMPTY);
        Due.due("refused drops are no changes", cabinet.count(2), 0);
        cabinet.make(0, 2, 3);
        cabinet.make(1, 2, 3);
        Due.due("drawers", cabinet.count(3), 2);
        Due.due("drop", cabinet.drop(0), 1);
        Due.due("drawers", cabinet.count(3), 1);
        Due.due("changes", cabinet.count(2), 3);
        Due.due("about behind drop", cabinet.about(0, 0), EMPTY);
        Due.due("the other one", cabinet.about(1, 0), 2);
    }

    private static void tellAndRead() {
        AlgebraCabinet cabinet = new AlgebraCabinet();
        Due.due("tell OUTSIDE", cabinet.tell(8), OUTSIDE);
        Due.due("tell EMPTY", cabinet.tell(0), EMPTY);
        String[] texts = {"1", "7", "1;c0;u0;b0", "2;b0110", "3;u120;c2;b012120201", "7;u6543210;c6", "4;c3;c2;c1;c0"};
        for (int i = 0; i < texts.length; i++) {
            Due.due("read " + texts[i], Due.read(cabinet, i, texts[i]), texts[i].charAt(0) - '0');
            Due.due("fault behind read", cabinet.fault(), 0);
            Due.due("tape behind read", cabinet.count(0), 0);
            Due.due("tell " + texts[i], cabinet.tell(i), texts[i].length());
            Due.dueText("tell " + texts[i], Due.told(cabinet, i), texts[i]);
        }
        Due.due("reads are changes", cabinet.count(2), texts.length);
        Due.type(cabinet, "3");
        Due.due("read OUTSIDE", cabinet.read(8), OUTSIDE);
        Due.due("a refused read uses the tape up", cabinet.count(0), 0);
        Due.due("a refused read is no change", cabinet.count(2), texts.length);
    }

    private static void readFaults() {
        Object[][] faults = {{"", 0, 1}, {"0", 0, 1}, {"8", 0, 1}, {"x", 0, 1}, {" 3", 0, 1}, {"3 ", 1, 1}, {"3;", 2, 1},
            {"33", 1, 1}, {"3;x", 2, 1}, {"3;b", 3, 1}, {"3;b01201201", 11, 1}, {"3;b0120120120", 12, 1},
            {"3;b012 12012", 6, 1}, {"3;b01:", 5, 1}, {"3;b01/", 5, 1}, {"3;b013", 5, 2}, {"3;b019", 5, 2}, {"1;c1", 3, 2},
            {"3;c", 3, 1}, {"3;c00", 4, 1}, {"3;c;c", 3, 1}, {"3;u012;", 7, 1}, {"2;c0;c0;c0;c0;c0", 13, 3},
            {"2;c0;c0;c0;c0;", 13, 3}, {"2;c0;c0;c0;c0;x", 13, 3}, {"2;c0;c0;c0;c2;", 12, 2}, {"2;c0;c0;c0;c0 ", 13, 1},
            {"2;c0;c0;c0;c0c", 13, 1}, {"2;c0\n", 4, 1}};
        AlgebraCabinet cabinet = new AlgebraCabinet();
        Due.read(cabinet, 0, "2;b0110");
        for (Object[] f : faults) {
            Due.due("read " + f[0], Due.read(cabinet, 0, (String) f[0]), -100 - (Integer) f[1]);
            Due.due("fault of " + f[0], cabinet.fault(), (Integer) f[2]);
            Due.due("tape behind " + f[0], cabinet.count(0), 0);
        }
        Due.dueText("the drawer stays", Due.told(cabinet, 0), "2;b0110");
        Due.due("faults are no changes", cabinet.count(2), 1);
    }

    private static void undo() {
        AlgebraCabinet cabinet = new AlgebraCabinet();
        for (int i = 0; i < 20; i++) {
            cabinet.make(i % 3, 1 + i % 7, 0);
            Due.due("changes kept", cabinet.count(2), Math.min(i + 1, 16));
        }
        for (int i = 19; i >= 4; i--) {
            Due.due("size ahead of undo", cabinet.about(i % 3, 0), 1 + i % 7);
            Due.due("undo", cabinet.undo(), i % 3);
            Due.due("size behind undo", cabinet.about(i % 3, 0), 1 + (i - 3) % 7);
            Due.due("changes kept", cabinet.count(2), i - 4);
        }
        Due.due("undo of none", cabinet.undo(), NONE);
        Due.due("drawer behind all undos", cabinet.about(0, 0), 1 + 3);
        cabinet.make(5, 2, 3);
        Due.due("undo goes on", cabinet.undo(), 5);
        Due.due("drawer 5 had nothing", cabinet.about(5, 0), EMPTY);
        Due.due("undo of none", cabinet.undo(), NONE);
    }

    private static void undoTakesBackEachKind() {
        AlgebraCabinet cabinet = new AlgebraCabinet();
        Due.laws(cabinet, 0, "a(x,x)=x");
        String before = "2;b0110";
        Due.read(cabinet, 0, before);
        Due.read(cabinet, 1, "3;b000000000");
        Due.read(cabinet, 2, "1;b0");
        int kept = cabinet.count(2);
        for (int kind = 0; kind < 10; kind++) {
            Due.isTrue("change " + kind + " is not refused", change(cabinet, kind) >= 0);
            Due.due("changes behind change " + kind, cabinet.count(2), kept + 1);
            Due.due("undo of change " + kind, cabinet.undo(), 0);
            Due.dueText("undo of change " + kind, Due.told(cabinet, 0), before);
            Due.due("changes behind undo " + kind, cabinet.count(2), kept);
        }
    }

    private static int change(AlgebraCabinet cabinet, int kind) {
        switch (kind) {
            case 0: return cabinet.make(0, 5, 1);
            case 1: return cabinet.set(0, 0, 1, 1, 1);
            case 2: return cabinet.stamp(0, 0, 1, 0, 2);
            case 3: return Due.read(cabinet, 0, "4;c2");
            case 4: return cabinet.sub(1, 1, 0);
            case 5: return cabinet.quotient(1, 0, 0);
            case 6: return cabinet.product(0, 1, 0);
            case 7: return cabinet.least(1, 0);
            case 8: return cabinet.model(2, 3, 0, 0, 0);
            default: return cabinet.drop(0);
        }
    }
}
