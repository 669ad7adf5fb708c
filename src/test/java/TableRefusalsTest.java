/**
 * What is refused by promises 2 to 18, by the document's sentences: each answer, the first of several by the order of
 * REFUSALS, and that a refused call changes nothing (but the tape, for read() and laws()).
 */
public final class TableRefusalsTest {
    private static final int EMPTY = AlgebraCabinet.EMPTY, OUTSIDE = AlgebraCabinet.OUTSIDE;
    private static final int MANY = AlgebraCabinet.MANY, CAST = AlgebraCabinet.CAST, INDEX = AlgebraCabinet.INDEX;
    private static final int LEAST = Integer.MIN_VALUE, GREATEST = Integer.MAX_VALUE;
    private static final int[] NO_DRAWERS = {-1, 8, 9, LEAST, GREATEST};
    private static final int[] NO_LISTS = {-1, 4, 5, LEAST, GREATEST};
    /** Drawer 0 of the scene has three elements and operations of the arities 2, 1, 0. */
    private static final int[] NO_ELEMENTS = {-1, 3, 7, LEAST, GREATEST};
    private static final int[] NO_OPERATIONS = {-1, 3, 4, LEAST, GREATEST};

    public static void main(String[] args) {
        noSuchDrawer();
        drawerIsEmpty();
        feed();
        trim();
        makeSize();
        makeArities();
        setOperation();
        setArguments();
        setValue();
        cellOperation();
        cellArity();
        cellIndex();
        stampOperation();
        stampIndex();
        about();
        read();
        traitsPowersCentre();
        laws();
        readFault();
        lawsFault();
        Due.finish();
    }

    /** "OUTSIDE: a drawer is none of 0 .. 7", ahead of whatever else is wrong. */
    private static void noSuchDrawer() {
        Scene.refusedOf("make", NO_DRAWERS, (c, d) -> c.make(d, 3, 3), OUTSIDE);
        Scene.refusedOf("set", NO_DRAWERS, (c, d) -> c.set(d, 0, 0, 0, 0), OUTSIDE);
        Scene.refusedOf("cell", NO_DRAWERS, (c, d) -> c.cell(d, 0, 2, 0, 0), OUTSIDE);
        Scene.refusedOf("cell, arity and index", NO_DRAWERS, (c, d) -> c.cell(d, 0, 1, 9, 9), OUTSIDE);
        Scene.refusedOf("stamp", NO_DRAWERS, (c, d) -> c.stamp(d, 0, 0, 0, 0), OUTSIDE);
        Scene.refusedOf("stamp, index", NO_DRAWERS, (c, d) -> c.stamp(d, 0, 9, 9, 9), OUTSIDE);
        Scene.refusedOf("about", NO_DRAWERS, (c, d) -> c.about(d, 0), OUTSIDE);
        Scene.refusedOf("drop", NO_DRAWERS, (c, d) -> c.drop(d), OUTSIDE);
        Scene.refusedOf("tell", NO_DRAWERS, (c, d) -> c.tell(d), OUTSIDE);
        Scene.refusedOf("traits", NO_DRAWERS, (c, d) -> c.traits(d, 0), OUTSIDE);
        Scene.refusedOf("powers", NO_DRAWERS, (c, d) -> c.powers(d, 0, 0), OUTSIDE);
        Scene.refusedOf("centre", NO_DRAWERS, (c, d) -> c.centre(d, 0), OUTSIDE);
    }

    /** "EMPTY: a drawer that must hold an algebra holds nothing", ahead of other numbers that are not as told. */
    private static void drawerIsEmpty() {
        int[] right = {0};
        int[] rightAndWrong = {0, -1, 9};
        Scene.refusedOf("set in nothing", rightAndWrong, (c, n) -> c.set(4, n, n, n, n), EMPTY);
        Scene.refusedOf("cell of nothing", rightAndWrong, (c, n) -> c.cell(4, n, n, n, n), EMPTY);
        Scene.refusedOf("stamp in nothing", rightAndWrong, (c, n) -> c.stamp(4, n, n, n, n), EMPTY);
        Scene.refusedOf("about nothing", rightAndWrong, (c, n) -> c.about(4, n), EMPTY);
        Scene.refusedOf("drop of nothing", right, (c, n) -> c.drop(4), EMPTY);
        Scene.refusedOf("tell of nothing", right, (c, n) -> c.tell(4), EMPTY);
        Scene.refusedOf("traits of nothing", rightAndWrong, (c, n) -> c.traits(4, n), EMPTY);
        Scene.refusedOf("powers of nothing", rightAndWrong, (c, n) -> c.powers(4, n, n), EMPTY);
        Scene.refusedOf("centre of nothing", rightAndWrong, (c, n) -> c.centre(4, n), EMPTY);
    }

    /** feed: "MANY: it would have more than 400." What stood on the tape is a law behind blanks, and stays so. */
    private static void feed() {
        for (int length = 381; length <= 400; length++) {
            AlgebraCabinet cabinet = new AlgebraCabinet();
            cabinet.make(0, 3, 0);
            Due.type(cabinet, " ".repeat(length - 7) + "x=x;z=y");
            Due.due("feed behind " + length, cabinet.feed(-1, -1, -1, -1, -1), MANY);
            Due.due("the tape behind MANY", cabinet.count(0), length);
            Due.due("laws behind MANY", cabinet.laws(0), 2);
            Due.due("the second law", cabinet.fails(0, 0, 1), 6);
            Due.due("feed is no change", cabinet.count(2), 1);
        }
    }

    /** trim: "OUTSIDE: it has not so many, or n is below 0." */
    private static void trim() {
        int length = Scene.TAPE.length();
        Scene.refusedOf("trim", new int[] {-1, length + 1, 400, 401, LEAST, GREATEST}, (c, n) -> c.trim(n), OUTSIDE);
    }

    /** make: "OUTSIDE: the size". */
    private static void makeSize() {
        int[] sizes = {0, 8, -1, 9, LEAST, GREATEST};
        Scene.refusedOf("make in a full drawer", sizes, (c, n) -> c.make(0, n, 3), OUTSIDE);
        Scene.refusedOf("make in an empty drawer", sizes, (c, n) -> c.make(4, n, 0), OUTSIDE);
    }

    /** make: "arities below 0, with another digit, or with more than four". */
    private static void makeArities() {
        int[] below = {-1, -3, -123, LEAST};
        int[] otherDigits = {4, 9, 10, 14, 41, 20, 30, 102, 1033, 3304, 4333, 1000, 100, 1234, 5};
        int[] tooLong = {11111, 33333, 10000, 12321, 111111, 1111111111, 10001, GREATEST};
        Scene.refusedOf("make of arities below 0", below, (c, n) -> c.make(4, 3, n), OUTSIDE);
        Scene.refusedOf("make of another digit", otherDigits, (c, n) -> c.make(0, 1, n), OUTSIDE);
        Scene.refusedOf("make of more than four", tooLong, (c, n) -> c.make(0, 1, n), OUTSIDE);
    }

    /** set: "OUTSIDE: no such operation". */
    private static void setOperation() {
        Scene.refusedOf("set", NO_OPERATIONS, (c, o) -> c.set(0, o, 0, 0, 1), OUTSIDE);
        Scene.refusedOf("set without operations", new int[] {-1, 0, 1}, (c, o) -> c.set(3, o, 0, 0, 1), OUTSIDE);
        Scene.refusedOf("set with four operations", new int[] {-1, 4, 5}, (c, o) -> c.set(6, o, 0, 0, 0), OUTSIDE);
    }

    /** set: "a, b (where looked at) .. is no element". */
    private static void setArguments() {
        Scene.refusedOf("set of arity 2, a", NO_ELEMENTS, (c, n) -> c.set(0, 0, n, 0, 1), OUTSIDE);
        Scene.refusedOf("set of arity 2, b", NO_ELEMENTS, (c, n) -> c.set(0, 0, 0, n, 1), OUTSIDE);
        Scene.refusedOf("set of arity 1, a", NO_ELEMENTS, (c, n) -> c.set(0, 1, n, 0, 1), OUTSIDE);
    }

    /** set: "or v is no element", of each arity. */
    private static void setValue() {
        for (int operation = 0; operation < 3; operation++) {
            int o = operation;
            Scene.refusedOf("set of operation " + o + ", v", NO_ELEMENTS, (c, n) -> c.set(0, o, 0, 0, n), OUTSIDE);
        }
    }

    /** cell: "OUTSIDE: no such operation", ahead of CAST and INDEX. */
    private static void cellOperation() {
        for (int arity = 0; arity <= 2; arity++) {
            int taken = arity;
            Scene.refusedOf("cell taken as " + taken, NO_OPERATIONS, (c, o) -> c.cell(0, o, taken, 9, 9), OUTSIDE);
        }
        Scene.refusedOf("cell without operations", new int[] {-1, 0, 1}, (c, o) -> c.cell(3, o, 0, 0, 0), OUTSIDE);
    }

    /** cell: "OUTSIDE: no such .. arity. CAST: its arity is another one.", ahead of INDEX. */
    private static void cellArity() {
        for (int operation = 0; operation < 3; operation++) {
            int o = operation;
            Scene.refusedOf("cell of no arity", new int[] {-1, 3, 4, LEAST, GREATEST}, (c, n) -> c.cell(0, o, n, 9, 9), OUTSIDE);
            Scene.refusedOf("cell of no arity", new int[] {-1, 3}, (c, n) -> c.cell(0, o, n, 0, 0), OUTSIDE);
            for (int arity = 0; arity <= 2; arity++) {
                int taken = arity;
                if (taken != 2 - o) {
                    String name = "cell of operation " + o + " taken as " + taken;
                    Scene.refusedOf(name, new int[] {0, 2, -1, 3}, (c, n) -> c.cell(0, o, taken, n, n), CAST);
                }
            }
        }
    }

    /** cell: "INDEX: a or b (where looked at) is no element." */
    private static void cellIndex() {
        Scene.refusedOf("cell of arity 2, a", NO_ELEMENTS, (c, n) -> c.cell(0, 0, 2, n, 0), INDEX);
        Scene.refusedOf("cell of arity 2, b", NO_ELEMENTS, (c, n) -> c.cell(0, 0, 2, 0, n), INDEX);
        Scene.refusedOf("cell of arity 1, a", NO_ELEMENTS, (c, n) -> c.cell(0, 1, 1, n, 0), INDEX);
    }

    /** stamp: "OUTSIDE: no such operation. CAST: its arity is another one.", both ahead of INDEX. */
    private static void stampOperation() {
        Scene.refusedOf("stamp", NO_OPERATIONS, (c, o) -> c.stamp(0, o, 0, 1, 3), OUTSIDE);
        Scene.refusedOf("stamp, index", NO_OPERATIONS, (c, o) -> c.stamp(0, o, 9, 9, 9), OUTSIDE);
        Scene.refusedOf("stamp without operations", new int[] {-1, 0, 1}, (c, o) -> c.stamp(3, o, 0, 0, 0), OUTSIDE);
        Scene.refusedOf("stamp of another arity", new int[] {1, 2}, (c, o) -> c.stamp(0, o, 0, 1, 3), CAST);
        Scene.refusedOf("stamp of another arity, index", new int[] {1, 2}, (c, o) -> c.stamp(0, o, 9, -1, 4), CAST);
    }

    /** stamp: "INDEX: row or to is no element; many is not 0 .. n." */
    private static void stampIndex() {
        Scene.refusedOf("stamp, row", NO_ELEMENTS, (c, n) -> c.stamp(0, 0, n, 1, 3), INDEX);
        Scene.refusedOf("stamp, to", NO_ELEMENTS, (c, n) -> c.stamp(0, 0, 1, n, 3), INDEX);
        Scene.refusedOf("stamp of no cells, row", NO_ELEMENTS, (c, n) -> c.stamp(0, 0, n, 1, 0), INDEX);
        Scene.refusedOf("stamp of no cells, to", NO_ELEMENTS, (c, n) -> c.stamp(0, 0, 1, n, 0), INDEX);
        Scene.refusedOf("stamp, many", new int[] {-1, 4, 7, LEAST, GREATEST}, (c, n) -> c.stamp(0, 0, 0, 1, n), INDEX);
        Scene.refusedOf("stamp of a row to itself, many", new int[] {-1, 4}, (c, n) -> c.stamp(0, 0, 1, 1, n), INDEX);
    }

    /** about: "OUTSIDE." */
    private static void about() {
        Scene.refusedOf("about", new int[] {-1, 4, LEAST, GREATEST}, (c, n) -> c.about(0, n), OUTSIDE);
        Scene.refusedOf("about no operations", new int[] {-1, 4}, (c, n) -> c.about(3, n), OUTSIDE);
    }

    /** read, laws: "use it up, whatever they answer"; "REFUSALS change nothing (but the tape ..)". */
    private static void read() {
        for (int drawer : NO_DRAWERS) {
            Scene.refusedBehindTape("read of " + drawer, c -> c.read(drawer), OUTSIDE);
        }
    }

    private static void laws() {
        for (int list : NO_LISTS) {
            Scene.refusedBehindTape("laws of " + list, c -> c.laws(list), OUTSIDE);
        }
    }

    /** traits, powers, centre: "OUTSIDE: no such operation[, a]. CAST: another arity." */
    private static void traitsPowersCentre() {
        Scene.refusedOf("traits", NO_OPERATIONS, (c, o) -> c.traits(0, o), OUTSIDE);
        Scene.refusedOf("powers", NO_OPERATIONS, (c, o) -> c.powers(0, o, 0), OUTSIDE);
        Scene.refusedOf("centre", NO_OPERATIONS, (c, o) -> c.centre(0, o), OUTSIDE);
        Scene.refusedOf("traits without operations", new int[] {-1, 0, 1}, (c, o) -> c.traits(3, o), OUTSIDE);
        Scene.refusedOf("powers without operations", new int[] {-1, 0, 1}, (c, o) -> c.powers(3, o, 0), OUTSIDE);
        Scene.refusedOf("centre without operations", new int[] {-1, 0, 1}, (c, o) -> c.centre(3, o), OUTSIDE);
        Scene.refusedOf("powers, a", NO_ELEMENTS, (c, n) -> c.powers(0, 0, n), OUTSIDE);
        Scene.refusedOf("powers of another arity, a", NO_ELEMENTS, (c, n) -> c.powers(0, 1, n), OUTSIDE);
        Scene.refusedOf("traits of another arity", new int[] {1, 2}, (c, o) -> c.traits(0, o), CAST);
        Scene.refusedOf("powers of another arity", new int[] {1, 2}, (c, o) -> c.powers(0, o, 2), CAST);
        Scene.refusedOf("centre of another arity", new int[] {1, 2}, (c, o) -> c.centre(0, o), CAST);
    }

    /** read: "-100 less the place of its FAULT": the drawer has what it had, and there is no change to take back. */
    private static void readFault() {
        Object[][] faults = {{"", 0, 1}, {"8", 0, 1}, {"3;", 2, 1}, {"3;b01201201", 11, 1}, {"3;c3", 3, 2},
            {"2;c0;c0;c0;c0;", 13, 3}};
        for (int drawer : new int[] {0, 4, 7}) {
            for (Object[] f : faults) {
                Scene.faulty((String) f[0], c -> c.read(drawer), (Integer) f[1], (Integer) f[2]);
            }
        }
    }

    /** laws: "-100 less the place of its FAULT (the list stays as it was)". */
    private static void lawsFault() {
        String deep = "a(a(a(a(a(a(a(a(x))))))))=x";
        Object[][] faults = {{"", 0, 1}, {"x=x;", 4, 1}, {"x=x;x=w", 6, 1}, {"x=a;x=a(x)", 6, 2}, {deep, 16, 3},
            {"x=x;x=x;x=x;x=x;x=x;x=x;x=x", 24, 4}};
        for (int list = 0; list < 4; list++) {
            int into = list;
            for (Object[] f : faults) {
                Scene.faulty((String) f[0], c -> c.laws(into), (Integer) f[1], (Integer) f[2]);
            }
        }
    }
}
