/**
 * What is refused by promises 19 to 36, by the document's sentences: each answer, the first of several by the order of
 * REFUSALS, and that a refused call changes nothing.
 */
public final class SearchRefusalsTest {
    private static final int NONE = AlgebraCabinet.NONE, EMPTY = AlgebraCabinet.EMPTY, OUTSIDE = AlgebraCabinet.OUTSIDE;
    private static final int UNFIT = AlgebraCabinet.UNFIT, MANY = AlgebraCabinet.MANY;
    private static final int LEAST = Integer.MIN_VALUE, GREATEST = Integer.MAX_VALUE;
    private static final int[] NO_DRAWERS = {-1, 8, 9, LEAST, GREATEST};
    private static final int[] NO_LISTS = {-1, 4, 5, LEAST, GREATEST};
    private static final int[] NO_ELEMENTS = {-1, 3, 7, LEAST, GREATEST};
    /** Right and wrong numbers, for calls that are refused ahead of them. */
    private static final int[] ANY = {0, NONE, -2, 99};

    public static void main(String[] args) {
        noSuchDrawer();
        noSuchTo();
        noSuchOther();
        noSuchList();
        drawerIsEmpty();
        otherIsEmpty();
        listIsEmpty();
        listDoesNotFit();
        notOfOneSignature();
        productTooLarge();
        noSuchLaw();
        noSuchBits();
        noSuchPart();
        noSuchElements();
        noSuchCongruence();
        noSuchMap();
        noSuchFunction();
        manyFunctions();
        modelSizeAndArities();
        modelUnfit();
        modelMany();
        noSuchForm();
        count();
        Due.finish();
    }

    /** "OUTSIDE: a drawer is none of 0 .. 7", ahead of EMPTY by another drawer or a list and of other numbers. */
    private static void noSuchDrawer() {
        for (int list : new int[] {0, 2}) {
            Scene.refusedOf("holds", NO_DRAWERS, (c, d) -> c.holds(d, list), OUTSIDE);
            Scene.refusedOf("fails", NO_DRAWERS, (c, d) -> c.fails(d, list, 0), OUTSIDE);
            Scene.refusedOf("witness", NO_DRAWERS, (c, d) -> c.witness(d, list, 0), OUTSIDE);
        }
        Scene.refusedOf("span", NO_DRAWERS, (c, d) -> c.span(d, 0), OUTSIDE);
        Scene.refusedOf("part", NO_DRAWERS, (c, d) -> c.part(d, NONE), OUTSIDE);
        Scene.refusedOf("sub", NO_DRAWERS, (c, d) -> c.sub(d, 0, 4), OUTSIDE);
        Scene.refusedOf("link", NO_DRAWERS, (c, d) -> c.link(d, 0, 0), OUTSIDE);
        Scene.refusedOf("congruence", NO_DRAWERS, (c, d) -> c.congruence(d, NONE), OUTSIDE);
        Scene.refusedOf("bound up", NO_DRAWERS, (c, d) -> c.bound(d, 0, 0, true), OUTSIDE);
        Scene.refusedOf("bound down", NO_DRAWERS, (c, d) -> c.bound(d, 0, 0, false), OUTSIDE);
        Scene.refusedOf("quotient", NO_DRAWERS, (c, d) -> c.quotient(d, 0, 4), OUTSIDE);
        for (int other : new int[] {0, 4}) {
            Scene.refusedOf("map", NO_DRAWERS, (c, d) -> c.map(d, other, 0, NONE), OUTSIDE);
            Scene.refusedOf("alike", NO_DRAWERS, (c, d) -> c.alike(d, other), OUTSIDE);
            Scene.refusedOf("product", NO_DRAWERS, (c, d) -> c.product(d, other, 4), OUTSIDE);
        }
        Scene.refusedOf("least", NO_DRAWERS, (c, d) -> c.least(d, 4), OUTSIDE);
        Scene.refusedOf("function", NO_DRAWERS, (c, d) -> c.function(d, NONE), OUTSIDE);
    }

    /** The drawer named to is one of the drawers: ahead of EMPTY, UNFIT and MANY. */
    private static void noSuchTo() {
        for (int drawer : new int[] {0, 4}) {
            Scene.refusedOf("sub, to", NO_DRAWERS, (c, d) -> c.sub(drawer, 0, d), OUTSIDE);
            Scene.refusedOf("quotient, to", NO_DRAWERS, (c, d) -> c.quotient(drawer, 0, d), OUTSIDE);
            Scene.refusedOf("least, to", NO_DRAWERS, (c, d) -> c.least(drawer, d), OUTSIDE);
            Scene.refusedOf("product, to", NO_DRAWERS, (c, d) -> c.product(drawer, 1, d), OUTSIDE);
            Scene.refusedOf("product, to", NO_DRAWERS, (c, d) -> c.product(1, drawer, d), OUTSIDE);
        }
        Scene.refusedOf("product of two signatures, to", NO_DRAWERS, (c, d) -> c.product(0, 2, d), OUTSIDE);
        Scene.refusedOf("product too large, to", NO_DRAWERS, (c, d) -> c.product(2, 2, d), OUTSIDE);
        Scene.refusedOf("model, to", NO_DRAWERS, (c, d) -> c.model(2, 123, 0, 0, d), OUTSIDE);
        Scene.refusedOf("model of no list, to", NO_DRAWERS, (c, d) -> c.model(2, 123, 2, 0, d), OUTSIDE);
        Scene.refusedOf("model that does not fit, to", NO_DRAWERS, (c, d) -> c.model(2, 3, 0, 0, d), OUTSIDE);
        Scene.refusedOf("model of many, to", NO_DRAWERS, (c, d) -> c.model(4, 3, 3, 0, d), OUTSIDE);
    }

    private static void noSuchOther() {
        for (int drawer : new int[] {0, 4}) {
            Scene.refusedOf("map, other", NO_DRAWERS, (c, d) -> c.map(drawer, d, 0, NONE), OUTSIDE);
            Scene.refusedOf("alike, other", NO_DRAWERS, (c, d) -> c.alike(drawer, d), OUTSIDE);
            Scene.refusedOf("product, other", NO_DRAWERS, (c, d) -> c.product(drawer, d, 4), OUTSIDE);
        }
    }

    /** "or a list none of 0 .. 3", ahead of EMPTY by a drawer. */
    private static void noSuchList() {
        for (int drawer : new int[] {0, 4}) {
            Scene.refusedOf("holds", NO_LISTS, (c, l) -> c.holds(drawer, l), OUTSIDE);
            Scene.refusedOf("fails", NO_LISTS, (c, l) -> c.fails(drawer, l, 0), OUTSIDE);
            Scene.refusedOf("witness", NO_LISTS, (c, l) -> c.witness(drawer, l, 0), OUTSIDE);
        }
        Scene.refusedOf("models", NO_LISTS, (c, l) -> c.models(2, 123, l, true), OUTSIDE);
        Scene.refusedOf("models", NO_LISTS, (c, l) -> c.models(2, 123, l, false), OUTSIDE);
        Scene.refusedOf("model", NO_LISTS, (c, l) -> c.model(2, 123, l, 0, 4), OUTSIDE);
    }

    /** "EMPTY: a drawer that must hold an algebra holds nothing", ahead of other numbers that are not as told. */
    private static void drawerIsEmpty() {
        Scene.refusedOf("holds in nothing", new int[] {0, 1, 2, 3}, (c, l) -> c.holds(4, l), EMPTY);
        Scene.refusedOf("fails in nothing", ANY, (c, k) -> c.fails(4, 0, k), EMPTY);
        Scene.refusedOf("witness in nothing", ANY, (c, k) -> c.witness(4, 0, k), EMPTY);
        Scene.refusedOf("span in nothing", ANY, (c, bits) -> c.span(4, bits), EMPTY);
        Scene.refusedOf("part of nothing", ANY, (c, k) -> c.part(4, k), EMPTY);
        Scene.refusedOf("sub of nothing", ANY, (c, k) -> c.sub(4, k, 0), EMPTY);
        Scene.refusedOf("sub of nothing to itself", ANY, (c, k) -> c.sub(4, k, 4), EMPTY);
        Scene.refusedOf("link in nothing", ANY, (c, a) -> c.link(4, a, a), EMPTY);
        Scene.refusedOf("congruence of nothing", ANY, (c, k) -> c.congruence(4, k), EMPTY);
        Scene.refusedOf("bound up in nothing", ANY, (c, k) -> c.bound(4, k, k, true), EMPTY);
        Scene.refusedOf("bound down in nothing", ANY, (c, k) -> c.bound(4, k, k, false), EMPTY);
        Scene.refusedOf("quotient of nothing", ANY, (c, k) -> c.quotient(4, k, 0), EMPTY);
        Scene.refusedOf("least of nothing", new int[] {0, 4}, (c, to) -> c.least(4, to), EMPTY);
        Scene.refusedOf("function of nothing", ANY, (c, k) -> c.function(4, k), EMPTY);
    }

    private static void otherIsEmpty() {
        for (int[] pair : new int[][] {{4, 0}, {0, 4}, {4, 4}, {4, 3}, {3, 4}}) {
            Scene.refusedOf("map by nothing", ANY, (c, n) -> c.map(pair[0], pair[1], n, n), EMPTY);
            Scene.refused("alike by nothing", c -> c.alike(pair[0], pair[1]), EMPTY);
            Scene.refusedOf("product by nothing", new int[] {0, 4}, (c, to) -> c.product(pair[0], pair[1], to), EMPTY);
        }
    }

    /** "or a list nothing", ahead of other numbers; models: "EMPTY: the list; OUTSIDE: size, arities". */
    private static void listIsEmpty() {
        Scene.refusedOf("holds of no list", new int[] {0, 3, 4}, (c, d) -> c.holds(d, 2), EMPTY);
        Scene.refusedOf("fails of no list", ANY, (c, k) -> c.fails(0, 2, k), EMPTY);
        Scene.refusedOf("witness of no list", ANY, (c, k) -> c.witness(0, 2, k), EMPTY);
        Scene.refusedOf("models of no list", new int[] {2, 0, 8}, (c, n) -> c.models(n, 3, 2, true), EMPTY);
        Scene.refusedOf("models of no list", new int[] {3, -1, 4, 3333}, (c, n) -> c.models(7, n, 2, false), EMPTY);
        Scene.refusedOf("model of no list", new int[] {2, 0, 8}, (c, n) -> c.model(n, 3, 2, -1, 0), EMPTY);
        Scene.refusedOf("model of no list", new int[] {3, -1, 4, 3333}, (c, n) -> c.model(7, n, 2, -1, 0), EMPTY);
    }

    /** holds: "UNFIT: it does not fit."; fails: "UNFIT; OUTSIDE: no such law."; witness: "As for fails()." */
    private static void listDoesNotFit() {
        int[] unfit = {2, 3, 5, 6, 7};
        Scene.refusedOf("holds", unfit, (c, d) -> c.holds(d, 0), UNFIT);
        for (int k : ANY) {
            Scene.refusedOf("fails", unfit, (c, d) -> c.fails(d, 0, k), UNFIT);
            Scene.refusedOf("witness", unfit, (c, d) -> c.witness(d, 0, k), UNFIT);
        }
    }

    /** map, alike, product: "UNFIT: not of one signature", ahead of "OUTSIDE: what is not 0 .. 3, no such map". */
    private static void notOfOneSignature() {
        for (int[] pair : new int[][] {{0, 2}, {2, 0}, {0, 3}, {3, 0}, {6, 3}, {2, 7}, {7, 6}}) {
            Scene.refusedOf("map", ANY, (c, n) -> c.map(pair[0], pair[1], n, n), UNFIT);
            Scene.refused("alike", c -> c.alike(pair[0], pair[1]), UNFIT);
            Scene.refusedOf("product", new int[] {pair[0], 4}, (c, to) -> c.product(pair[0], pair[1], to), UNFIT);
        }
    }

    /** product: "UNFIT: .. or the size would be above 7": 3 * 3, 4 * 4, 4 * 5, 7 * 7. */
    private static void productTooLarge() {
        for (int[] pair : new int[][] {{0, 0}, {2, 2}, {2, 5}, {5, 2}, {3, 3}}) {
            Scene.refusedOf("product", new int[] {pair[0], 4}, (c, to) -> c.product(pair[0], pair[1], to), UNFIT);
        }
    }

    /** fails, witness: "OUTSIDE: no such law." List 0 has three, list 1 one. */
    private static void noSuchLaw() {
        int[] behindThree = {-1, 3, 6, LEAST, GREATEST};
        int[] behindOne = {-1, 1, 2};
        Scene.refusedOf("fails of three", behindThree, (c, k) -> c.fails(0, 0, k), OUTSIDE);
        Scene.refusedOf("witness of three", behindThree, (c, k) -> c.witness(0, 0, k), OUTSIDE);
        Scene.refusedOf("fails of one", behindOne, (c, k) -> c.fails(3, 1, k), OUTSIDE);
        Scene.refusedOf("witness of one", behindOne, (c, k) -> c.witness(3, 1, k), OUTSIDE);
    }

    /** span: "OUTSIDE: bits of what is no element." */
    private static void noSuchBits() {
        Scene.refusedOf("span of three", new int[] {8, 9, 15, 16, -1, -8, LEAST, GREATEST}, (c, b) -> c.span(0, b), OUTSIDE);
        Scene.refusedOf("span of seven", new int[] {128, 129, 255, -128, LEAST, GREATEST}, (c, b) -> c.span(3, b), OUTSIDE);
        Scene.refusedOf("span of one", new int[] {2, 3, -1, -2, LEAST}, (c, b) -> c.span(6, b), OUTSIDE);
    }

    /** part, sub: "OUTSIDE: no such part." Drawer 0 has two, drawer 3 all 127, drawer 6 one; sub() has no NONE. */
    private static void noSuchPart() {
        for (int[] row : new int[][] {{0, 2}, {3, 127}, {6, 1}}) {
            int[] wrong = {-2, row[1], row[1] + 1, 128, LEAST, GREATEST};
            Due.due("parts", Scene.made().part(row[0], NONE), row[1]);
            Due.isTrue("the last part", Scene.made().part(row[0], row[1] - 1) > 0);
            Due.isTrue("the last part", Scene.made().sub(row[0], row[1] - 1, 4) > 0);
            Scene.refusedOf("part", wrong, (c, k) -> c.part(row[0], k), OUTSIDE);
            Scene.refusedOf("sub", wrong, (c, k) -> c.sub(row[0], k, 4), OUTSIDE);
            Scene.refusedOf("sub to itself", wrong, (c, k) -> c.sub(row[0], k, row[0]), OUTSIDE);
            Scene.refused("sub NONE", c -> c.sub(row[0], NONE, 4), OUTSIDE);
        }
    }

    /** link: "OUTSIDE: no such elements." */
    private static void noSuchElements() {
        Scene.refusedOf("link, a", NO_ELEMENTS, (c, n) -> c.link(0, n, 0), OUTSIDE);
        Scene.refusedOf("link, b", NO_ELEMENTS, (c, n) -> c.link(0, 0, n), OUTSIDE);
        Scene.refusedOf("link, both", NO_ELEMENTS, (c, n) -> c.link(0, n, n), OUTSIDE);
        Scene.refusedOf("link of seven", new int[] {-1, 7}, (c, n) -> c.link(3, n, 6), OUTSIDE);
    }

    /** congruence, bound, quotient: "OUTSIDE: no such one(s)." Drawer 0 has 2, drawer 2 has 8, drawer 3 has 877. */
    private static void noSuchCongruence() {
        for (int[] row : new int[][] {{0, 2}, {2, 8}, {3, 877}, {6, 1}}) {
            int[] wrong = {-2, row[1], row[1] + 1, LEAST, GREATEST};
            int last = row[1] - 1;
            Due.due("congruences", Scene.made().congruence(row[0], NONE), row[1]);
            Due.isTrue("the last congruence", Scene.made().congruence(row[0], last) >= 0);
            Due.isTrue("the last congruence", Scene.made().quotient(row[0], last, 4) > 0);
            Due.due("the last congruence", Scene.made().bound(row[0], last, last, true), last);
            Scene.refusedOf("congruence", wrong, (c, k) -> c.congruence(row[0], k), OUTSIDE);
            Scene.refusedOf("quotient", wrong, (c, k) -> c.quotient(row[0], k, 4), OUTSIDE);
            Scene.refusedOf("quotient to itself", wrong, (c, k) -> c.quotient(row[0], k, row[0]), OUTSIDE);
            Scene.refused("quotient NONE", c -> c.quotient(row[0], NONE, 4), OUTSIDE);
            for (boolean up : new boolean[] {true, false}) {
                Scene.refusedOf("bound, k", wrong, (c, k) -> c.bound(row[0], k, 0, up), OUTSIDE);
                Scene.refusedOf("bound, l", wrong, (c, l) -> c.bound(row[0], 0, l, up), OUTSIDE);
                Scene.refused("bound, k NONE", c -> c.bound(row[0], NONE, 0, up), OUTSIDE);
                Scene.refused("bound, l NONE", c -> c.bound(row[0], 0, NONE, up), OUTSIDE);
            }
        }
    }

    /** map: "OUTSIDE: what is not 0 .. 3, no such map." */
    private static void noSuchMap() {
        int[] wrongWhat = {-1, 4, 5, LEAST, GREATEST};
        Scene.refusedOf("map, what", wrongWhat, (c, what) -> c.map(0, 0, what, 0), OUTSIDE);
        Scene.refusedOf("map, what, NONE", wrongWhat, (c, what) -> c.map(0, 0, what, NONE), OUTSIDE);
        // of a what there are: 0 to itself 3, 2, 2, 2; 0 to 1 and 1 to 0 one each, of what 0 alone
        int[][] maps = {{0, 0, 0, 3}, {0, 0, 1, 2}, {0, 0, 2, 2}, {0, 0, 3, 2}, {0, 1, 0, 1}, {0, 1, 1, 0}, {0, 1, 2, 0},
            {1, 0, 0, 1}, {1, 0, 1, 0}, {1, 0, 2, 0}, {0, 1, 3, 0}, {3, 3, 3, 5040}};
        for (int[] row : maps) {
            int[] wrong = {-2, row[3], row[3] + 1, LEAST, GREATEST};
            Due.due("maps of what " + row[2], Scene.made().map(row[0], row[1], row[2], NONE), row[3]);
            Scene.refusedOf("map of what " + row[2], wrong, (c, k) -> c.map(row[0], row[1], row[2], k), OUTSIDE);
        }
    }

    /** function: "OUTSIDE: no such one." Drawer 0 has three, drawers 3 and 6 have one. */
    private static void noSuchFunction() {
        for (int[] row : new int[][] {{0, 3}, {3, 1}, {6, 1}}) {
            int[] wrong = {-2, row[1], row[1] + 1, 300, LEAST, GREATEST};
            Due.due("functions", Scene.made().function(row[0], NONE), row[1]);
            Due.isTrue("the last function", Scene.made().function(row[0], row[1] - 1) >= 0);
            Scene.refusedOf("function", wrong, (c, k) -> c.function(row[0], k), OUTSIDE);
        }
    }

    /** function: "MANY, ahead of OUTSIDE", whatever k is. */
    private static void manyFunctions() {
        int[] any = {NONE, 0, 299, 300, 3124, 3125, -2, LEAST, GREATEST};
        Scene.refusedOf("function", any, (c, k) -> c.function(5, k), MANY);
    }

    private static void modelsRefused(int size, int arities, int list, int want) {
        String name = size + " " + arities + " by list " + list;
        Scene.refused("models " + name, c -> c.models(size, arities, list, false), want);
        Scene.refused("forms " + name, c -> c.models(size, arities, list, true), want);
        Scene.refusedOf("model " + name, new int[] {0, NONE, GREATEST}, (c, k) -> c.model(size, arities, list, k, 4), want);
        Scene.refused("model " + name + " to a full drawer", c -> c.model(size, arities, list, 0, 0), want);
    }

    /** models: "OUTSIDE: size, arities as for make()", ahead of UNFIT and MANY: list 0 does not fit. */
    private static void modelSizeAndArities() {
        for (int list : new int[] {0, 1}) {
            for (int size : new int[] {0, 8, -1, LEAST, GREATEST}) {
                modelsRefused(size, 0, list, OUTSIDE);
            }
            for (int arities : new int[] {-1, 4, 10, 103, 1230, 11111, 33333, LEAST, GREATEST}) {
                modelsRefused(7, arities, list, OUTSIDE);
            }
        }
    }

    /** models: "UNFIT, behind that: the list does not fit such algebras", ahead of MANY. */
    private static void modelUnfit() {
        modelsRefused(2, 0, 0, UNFIT);
        modelsRefused(1, 23, 0, UNFIT);
        modelsRefused(2, 321, 0, UNFIT);
        modelsRefused(2, 113, 0, UNFIT);
        modelsRefused(7, 3333, 0, UNFIT);
        modelsRefused(7, 2, 3, UNFIT);
    }

    /** models: "MANY, behind that"; model: "As for models(); then OUTSIDE: no such form." */
    private static void modelMany() {
        modelsRefused(3, 113, 3, MANY);
        modelsRefused(4, 3, 3, MANY);
        modelsRefused(7, 2, 1, MANY);
        modelsRefused(7, 3333, 1, MANY);
        modelsRefused(2, 3333, 1, MANY);
    }

    /** model: "then OUTSIDE: no such form." */
    private static void noSuchForm() {
        for (int[] row : new int[][] {{2, 123, 0, 2}, {2, 3, 3, 4}, {2, 3, 1, 0}, {7, 0, 1, 0}, {1, 0, 1, 1}}) {
            int[] wrong = {NONE, -2, row[3], row[3] + 1, LEAST, GREATEST};
            Due.due("forms", Scene.made().models(row[0], row[1], row[2], true), row[3]);
            if (row[3] > 0) {
                Due.isTrue("the last form", Scene.made().model(row[0], row[1], row[2], row[3] - 1, 4) > 0);
            }
            Scene.refusedOf("model of " + row[3], wrong, (c, k) -> c.model(row[0], row[1], row[2], k, 4), OUTSIDE);
            Scene.refusedOf("model of " + row[3], wrong, (c, k) -> c.model(row[0], row[1], row[2], k, 0), OUTSIDE);
        }
    }

    /** count: "OUTSIDE for another what." */
    private static void count() {
        Scene.refusedOf("count", new int[] {-1, 5, 6, LEAST, GREATEST}, (c, what) -> c.count(what), OUTSIDE);
    }
}
