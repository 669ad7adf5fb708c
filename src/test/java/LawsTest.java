/** Promises 17 to 21: laws, fault, holds, fails, witness. */
public final class LawsTest {
    private static final int EMPTY = AlgebraCabinet.EMPTY, OUTSIDE = AlgebraCabinet.OUTSIDE;
    private static final int UNFIT = AlgebraCabinet.UNFIT, NONE = AlgebraCabinet.NONE;
    /** Eight terms, one within the other, with the innermost one left out. */
    private static final String EIGHT = "a(a(a(a(a(a(a(a(";
    private static final String CLOSED = "))))))))";

    public static void main(String[] args) {
        goodTexts();
        faults();
        mostTerms();
        listsAndTape();
        faultBehindRefusals();
        holds();
        failsAndWitness();
        refusals();
        Due.finish();
    }

    private static void goodTexts() {
        Object[][] texts = {{"x=y", 1}, {" x = y ", 1}, {"\n\nx\n=\ny\n", 1}, {"a=b;c=d", 2}, {"a ( x , y ) = z", 1},
            {"x=y>y=x", 1}, {"x=y&y=z>x=z", 1}, {"x=y&y=z&z=x&x=x>x=z;x=x", 2}, {"x=x;x=x;x=x;x=x;x=x;x=x", 6},
            {"a(b(c(d)))=a(x)", 1}, {"a(b,c)=d(x)", 1}, {EIGHT.substring(2) + "x" + CLOSED.substring(1) + "=x", 1}};
        for (Object[] t : texts) {
            AlgebraCabinet cabinet = new AlgebraCabinet();
            Due.due("laws " + t[0], Due.laws(cabinet, 3, (String) t[0]), (Integer) t[1]);
            Due.due("fault of " + t[0], cabinet.fault(), 0);
            Due.due("tape behind " + t[0], cabinet.count(0), 0);
            Due.due("lists behind " + t[0], cabinet.count(4), 1);
        }
    }

    private static void faults() {
        Object[][] texts = {
            // 1: the end, if more must come; its place counts blanks too
            {"", 0, 1}, {"  ", 2, 1}, {"x", 1, 1}, {"x=", 2, 1}, {"x=  ", 4, 1}, {"x=x;", 4, 1}, {"x=x; ", 5, 1},
            {"x=x>", 4, 1}, {"x=x&", 4, 1}, {"x=x&y=y", 7, 1}, {"x=x&y=y>", 8, 1}, {"a(", 2, 1}, {"a(x", 3, 1},
            {"a(x,", 4, 1}, {"a(x,y", 5, 1}, {"a(x,y)", 6, 1}, {"a", 1, 1},
            // 1: a byte that is no sign
            {"w=x", 0, 1}, {"x=e", 2, 1}, {"x=X", 2, 1}, {"x\t=x", 1, 1}, {"x=x\r", 3, 1}, {"x=x\0", 3, 1},
            {"x=x\u00e1", 3, 1}, {"x=\u00f8", 2, 1}, {"x=x.", 3, 1}, {"x=0", 2, 1},
            // 1: a sign with which no text goes on
            {"=", 0, 1}, {"x x", 2, 1}, {"xy=x", 1, 1}, {"x(y)=x", 1, 1}, {"x=y=z", 3, 1}, {"x=y>z=z>x=x", 7, 1},
            {"x=y>z=z&x=x", 7, 1}, {"x=y&z=z;x=x", 7, 1}, {"a()=x", 2, 1}, {"a(x,)=x", 4, 1}, {"a(x,y,z)=x", 5, 1},
            {"a(x;y)=x", 3, 1}, {"a(x=y)", 3, 1}, {"x=x)", 3, 1}, {"x=x,x", 3, 1}, {";x=x", 0, 1}, {"x=x;;x=x", 4, 1},
            {">x=x", 0, 1}, {"x>x=x", 1, 1}, {"x&x=x", 1, 1}, {"x;x=x", 1, 1}, {"a(x)(x)=x", 4, 1}, {"(x)=x", 0, 1},
            {"a(x))=x", 4, 1}, {"a(x=x", 3, 1},
            // 2: only where there is none of the others
            {"a=a(x)", 2, 2}, {"a(x)=a", 5, 2}, {"a(x)=a(x,y)", 5, 2}, {"a(x,y)=a(x)", 7, 2}, {"a(a,x)=x", 2, 2},
            {"x=a;x=b;b(x)=a(x)", 8, 2}, {"a=b;b(x)=a(x)", 4, 2}, {"a=a(x)=", 6, 1}, {"a=a(x);", 7, 1}, {"b(a,a(b))=x", 4, 2},
            {"b(a(x),a(x))=b(b,x)", 15, 2},
            // 3: a term that lies within eight others
            {EIGHT + "x" + CLOSED + "=x", 16, 3}, {EIGHT + "a(x)" + CLOSED + "=x", 16, 3}, {EIGHT + " x", 17, 3},
            {EIGHT, 16, 1}, {EIGHT + "=", 16, 1}, {"x=" + EIGHT + "x", 18, 3}, {"a(x," + EIGHT.substring(2) + "x", 18, 3},
            {"b=b(x);" + EIGHT + "x", 23, 3},
            // 4: the seventh law, at its first sign, behind blanks too
            {"x=x;x=x;x=x;x=x;x=x;x=x;x=x", 24, 4}, {"x=x;x=x;x=x;x=x;x=x;x=x; a", 25, 4},
            {"x=x;x=x;x=x;x=x;x=x;x=x;", 24, 1}, {"x=x;x=x;x=x;x=x;x=x;x=x;=", 24, 1}, {"x=x;x=x;x=x;x=x;x=x;x=x;w", 24, 1},
            {"a=a(x);x=x;x=x;x=x;x=x;x=x;x", 27, 4}};
        for (Object[] t : texts) {
            AlgebraCabinet cabinet = new AlgebraCabinet();
            Due.due("laws " + t[0], Due.laws(cabinet, 1, (String) t[0]), -100 - (Integer) t[1]);
            Due.due("fault of " + t[0], cabinet.fault(), (Integer) t[2]);
            Due.due("tape behind " + t[0], cabinet.count(0), 0);
            Due.due("lists behind " + t[0], cabinet.count(4), 0);
        }
    }

    /** One law of many sames has 80 terms; the 81st is a fault, wherever it lies. */
    private static void mostTerms() {
        StringBuilder text = new StringBuilder("x=x");
        for (int i = 1; i < 39; i++) {
            text.append("&x=x");
        }
        AlgebraCabinet cabinet = new AlgebraCabinet();
        Due.due("80 terms", Due.laws(cabinet, 0, text + ">x=y"), 1);
        cabinet.make(0, 7, 0);
        Due.due("80 terms are tried", cabinet.fails(0, 0, 0), 42);
        Due.due("81 terms", Due.laws(cabinet, 0, text + ">a(x)=y"), -100 - 161);
        Due.due("81 terms", cabinet.fault(), 4);
        Due.due("81 terms, at the end", Due.laws(cabinet, 0, text + ">x=a(x)"), -100 - 160);
        Due.due("81 terms in the next law", Due.laws(cabinet, 0, text + ">x=y;x=x"), -100 - 160);
        Due.due("81 terms in the next law", cabinet.fault(), 4);
        // 36 sames and eight letters are 80 terms; the 81st lies within eight others too
        String nine = EIGHT + "x" + CLOSED;
        StringBuilder full = new StringBuilder("x=x");
        for (int i = 1; i < 36; i++) {
            full.append("&x=x");
        }
        Due.due("3 ahead of 4", Due.laws(cabinet, 0, full + "&" + nine), -100 - (full.length() + 17));
        Due.due("3 ahead of 4", cabinet.fault(), 3);
        Due.due("the list stays", cabinet.fails(0, 0, 0), 42);
        Due.due("a full tape", Due.laws(cabinet, 0, "x".repeat(400)), -101);
        Due.due("a full tape of blanks", Due.laws(cabinet, 0, " \n".repeat(200)), -500);
        Due.due("a full tape of parentheses", Due.laws(cabinet, 0, "a(".repeat(200)), -116);
        Due.due("a law behind blanks", Due.laws(cabinet, 0, " ".repeat(397) + "x=y"), 1);
        Due.due("a law without its end", Due.laws(cabinet, 0, " ".repeat(398) + "x="), -500);
    }

    private static void listsAndTape() {
        AlgebraCabinet cabinet = new AlgebraCabinet();
        cabinet.make(0, 2, 0);
        for (int list = 0; list < 4; list++) {
            Due.due("laws", Due.laws(cabinet, list, "x=x;x=y"), 2);
            Due.due("lists", cabinet.count(4), list + 1);
        }
        Due.due("laws anew", Due.laws(cabinet, 2, "x=x"), 1);
        Due.due("laws with a fault", Due.laws(cabinet, 1, "x=x;;"), -104);
        Due.due("lists", cabinet.count(4), 4);
        Due.due("list 0", cabinet.holds(0, 0), 1);
        Due.due("list 1 stays as it was", cabinet.holds(0, 1), 1);
        Due.due("list 2 is another", cabinet.holds(0, 2), NONE);
        Due.due("list 3", cabinet.holds(0, 3), 1);
        Due.due("laws are no changes", cabinet.count(2), 1);
        Due.due("undo leaves the lists", cabinet.undo(), 0);
        Due.due("lists", cabinet.count(4), 4);
    }

    /** A refused call uses the tape up and reads no text: the fault is still that of the text read ahead of it. */
    private static void faultBehindRefusals() {
        int[] wrong = {-1, 4, 8, Integer.MAX_VALUE, Integer.MIN_VALUE};
        for (int list : wrong) {
            AlgebraCabinet cabinet = new AlgebraCabinet();
            Due.due("laws OUTSIDE", Due.laws(cabinet, list, "x="), OUTSIDE);
            Due.due("tape behind a refused laws", cabinet.count(0), 0);
            Due.due("no text was read", cabinet.fault(), 0);
            Due.laws(cabinet, 0, "a=a(x)");
            refuseBoth(cabinet, list, 2);
            Due.read(cabinet, 0, "");
            refuseBoth(cabinet, list, 1);
            Due.read(cabinet, 0, "1;c0;c0;c0;c0;c0");
            refuseBoth(cabinet, list, 3);
            Due.laws(cabinet, 0, "x=x;x=x;x=x;x=x;x=x;x=x;x=x");
            refuseBoth(cabinet, list, 4);
            Due.laws(cabinet, 0, "x=x");
            refuseBoth(cabinet, list, 0);
            Due.read(cabinet, 0, "3;c7");
            refuseBoth(cabinet, list, 2);
            Due.read(cabinet, 0, "3");
            refuseBoth(cabinet, list, 0);
        }
        AlgebraCabinet cabinet = new AlgebraCabinet();
        Due.laws(cabinet, 0, "a=a(x)");
        cabinet.holds(9, 9);
        cabinet.make(0, 0, 0);
        Due.due("other refusals leave the fault", cabinet.fault(), 2);
    }

    /** Drawer 4 is one, so read() is refused by another number there. */
    private static void refuseBoth(AlgebraCabinet cabinet, int list, int fault) {
        Due.due("fault", cabinet.fault(), fault);
        for (String text : new String[] {"", "x=x", "3;c7"}) {
            Due.due("laws OUTSIDE", Due.laws(cabinet, list, text), OUTSIDE);
            Due.due("tape behind a refused laws", cabinet.count(0), 0);
            Due.due("fault behind a refused laws", cabinet.fault(), fault);
            Due.due("read OUTSIDE", Due.read(cabinet, list == 4 ? 9 : list, text), OUTSIDE);
            Due.due("tape behind a refused read", cabinet.count(0), 0);
            Due.due("fault behind a refused read", cabinet.fault(), fault);
        }
    }

    private static void holds() {
        AlgebraCabinet cabinet = new AlgebraCabinet();
        Due.read(cabinet, 0, "3;b012120201;u021;c0");
        Due.laws(cabinet, 0, "a(a(x,y),z)=a(x,a(y,z));a(x,b(x))=c;a(x,c)=x;a(x,y)=a(x,z)>y=z;a(x,x)=c;b(x)=x");
        Due.due("holds", cabinet.holds(0, 0), 4);
        Due.laws(cabinet, 1, "a(x,y)=a(y,x);b(b(x))=x");
        Due.due("holds of all", cabinet.holds(0, 1), NONE);
        Due.laws(cabinet, 2, "x=y;x=x");
        Due.due("holds of the first", cabinet.holds(0, 2), 0);
        cabinet.make(1, 1, 123);
        Due.due("holds in one element", cabinet.holds(1, 2), NONE);
        Due.laws(cabinet, 3, "x=y>y=x;x=y&y=z>x=z;x=y>x=z;z=z");
        Due.due("holds with conditions", cabinet.holds(0, 3), 2);
    }

    private static void failsAndWitness() {
        AlgebraCabinet cabinet = new AlgebraCabinet();
        Due.read(cabinet, 0, "3;b012120201;u021;c0");
        Due.laws(cabinet, 0, "x=x;x=y;y=z;z=c;c=c;x=y&y=z>x=z");
        int[] fails = {0, 6, 6, 2, 0, 0};
        int[] witnesses = {NONE, 7, 1, 1, NONE, NONE};
        for (int k = 0; k < 6; k++) {
            Due.due("fails " + k, cabinet.fails(0, 0, k), fails[k]);
            Due.due("witness " + k, cabinet.witness(0, 0, k), witnesses[k]);
        }
        Due.laws(cabinet, 1, "b(c)=a(c,c);b(x)=x;a(x,y)=y;a(x,a(y,z))=x;x=y>x=z;z=x&a(x,y)=c>z=c");
        int[] moreFails = {0, 2, 6, 18, 6, 2};
        int[] moreWitnesses = {NONE, 49, 49, 1, 1, 49 + 14 + 1};
        for (int k = 0; k < 6; k++) {
            Due.due("fails " + k, cabinet.fails(0, 1, k), moreFails[k]);
            Due.due("witness " + k, cabinet.witness(0, 1, k), moreWitnesses[k]);
        }
        cabinet.make(1, 7, 0);
        Due.laws(cabinet, 2, "x=x&y=y&z=z>x=y");
        Due.due("fails of three variables", cabinet.fails(1, 2, 0), 42 * 7);
        Due.laws(cabinet, 2, "x=y>x=z");
        Due.due("fails of a condition", cabinet.fails(1, 2, 0), 42);
        Due.due("witness of a condition", cabinet.witness(1, 2, 0), 1);
        Due.read(cabinet, 2, "7;u0123450");
        Due.laws(cabinet, 3, "a(z)=z");
        Due.due("the last witness", cabinet.witness(2, 3, 0), 6);
        Due.laws(cabinet, 3, "a(y)=y");
        Due.due("the last witness", cabinet.witness(2, 3, 0), 42);
        Due.laws(cabinet, 3, "a(x)=x");
        Due.due("the last witness", cabinet.witness(2, 3, 0), 294);
        Due.read(cabinet, 3, "2;c1;c0");
        Due.laws(cabinet, 3, "a=b;a=a");
        Due.due("fails without variables", cabinet.fails(3, 3, 0), 1);
        Due.due("witness without variables", cabinet.witness(3, 3, 0), 0);
        Due.due("fails without variables", cabinet.fails(3, 3, 1), 0);
    }

    private static void refusals() {
        AlgebraCabinet cabinet = new AlgebraCabinet();
        tryAll(cabinet, 8, 0, 0, OUTSIDE);
        tryAll(cabinet, -1, 0, 0, OUTSIDE);
        tryAll(cabinet, 0, 4, 0, OUTSIDE);
        tryAll(cabinet, 0, -1, 0, OUTSIDE);
        tryAll(cabinet, 0, 0, 9, EMPTY);
        cabinet.make(0, 3, 321);
        tryAll(cabinet, 0, 0, 9, EMPTY);
        Due.laws(cabinet, 0, "c(x,b(a))=x");
        tryAll(cabinet, 1, 0, 9, EMPTY);
        Due.due("fits", cabinet.fails(0, 0, 0), 2);
        Due.due("fails OUTSIDE", cabinet.fails(0, 0, 1), OUTSIDE);
        Due.due("fails OUTSIDE", cabinet.fails(0, 0, -1), OUTSIDE);
        Due.due("witness OUTSIDE", cabinet.witness(0, 0, 1), OUTSIDE);
        Due.due("witness OUTSIDE", cabinet.witness(0, 0, -1), OUTSIDE);
        for (String text : new String[] {"d=x", "a(x)=x", "b=x", "b(x,x)=x", "c(x)=x", "x=x;x=x>c=x", "c(x,d)=x"}) {
            Due.laws(cabinet, 1, text);
            tryAll(cabinet, 0, 1, 9, UNFIT);
        }
        Due.laws(cabinet, 1, "x=x");
        cabinet.make(2, 2, 0);
        Due.due("a list without letters fits", cabinet.holds(2, 1), NONE);
    }

    private static void tryAll(AlgebraCabinet cabinet, int drawer, int list, int k, int want) {
        Due.due("holds refused", cabinet.holds(drawer, list), want);
        Due.due("fails refused", cabinet.fails(drawer, list, k), want);
        Due.due("witness refused", cabinet.witness(drawer, list, k), want);
    }
}
