import java.util.ArrayDeque;
import java.util.Deque;
import java.util.Random;

/** The sentences of the document's section "Terms" on drawers, algebras, changes, the tape and OUT, at their edges. */
public final class TermsTest {
    private static final int NONE = AlgebraCabinet.NONE, EMPTY = AlgebraCabinet.EMPTY, OUTSIDE = AlgebraCabinet.OUTSIDE;
    private static final int UNFIT = AlgebraCabinet.UNFIT, MANY = AlgebraCabinet.MANY, INDEX = AlgebraCabinet.INDEX;
    /** The calls of one object that the document speaks of. */
    private static final int MOST_CALLS = 512;

    public static void main(String[] args) {
        calls();
        drawers();
        sizes();
        elements();
        operations();
        largestAlgebra();
        smallerInTheSameDrawer();
        rows();
        oneSignature();
        order();
        toldAsNumber();
        arities();
        changesWhereNothingBecomesAnother();
        callsThatAreNoChanges();
        sixteenAreKept();
        takenBackIsKeptNoMore();
        changesGoRound();
        tape();
        tapeIsUsedUp();
        outAtFirst();
        Due.finish();
    }

    /** "An object is used for at most 512 calls": up to the last of them it answers as ever. */
    private static void calls() {
        AlgebraCabinet cabinet = new AlgebraCabinet();
        for (int call = 1; call < MOST_CALLS - 1; call++) {
            int size = 1 + call % 7;
            Due.due("call " + call, cabinet.make(call % 8, size, 3333), 4 * size * size);
        }
        Due.due("call 511", cabinet.about((MOST_CALLS - 2) % 8, 0), 1 + (MOST_CALLS - 2) % 7);
        Due.due("call 512", cabinet.undo(), (MOST_CALLS - 2) % 8);
    }

    /** "DRAWERS 0 .. 7 hold an ALGEBRA each, or nothing (at first)." */
    private static void drawers() {
        AlgebraCabinet cabinet = new AlgebraCabinet();
        for (int drawer = 0; drawer < 8; drawer++) {
            Due.due("nothing at first", cabinet.about(drawer, 0), EMPTY);
        }
        for (int drawer = 0; drawer < 8; drawer++) {
            Due.due("drawers that hold", cabinet.count(3), drawer);
            int size = 7 - drawer % 7;
            Due.due("make", cabinet.make(drawer, size, drawer % 4), Due.cells(size, drawer % 4));
        }
        Due.due("eight at once", cabinet.count(3), 8);
        for (int drawer = 0; drawer < 8; drawer++) {
            Due.due("each has its own size", cabinet.about(drawer, 0), 7 - drawer % 7);
            Due.due("each has its own arities", cabinet.about(drawer, 1), drawer % 4);
        }
        Due.due("drawer -1", cabinet.about(-1, 0), OUTSIDE);
        Due.due("drawer 8", cabinet.about(8, 0), OUTSIDE);
    }

    /** "a SIZE n, 1 .. 7": by make and by read. */
    private static void sizes() {
        for (int size = -1; size <= 9; size++) {
            AlgebraCabinet cabinet = new AlgebraCabinet();
            boolean right = size >= 1 && size <= 7;
            Due.due("make of size " + size, cabinet.make(0, size, 3), right ? size * size : OUTSIDE);
            Due.due("drawers", cabinet.count(3), right ? 1 : 0);
            if (size >= 0) {
                Due.due("read of size " + size, Due.read(cabinet, 1, Integer.toString(size)), right ? size : -100);
            }
        }
    }

    /** "ELEMENTS 0 .. n - 1": as arguments, values, and of link. */
    private static void elements() {
        for (int n = 1; n <= 7; n++) {
            AlgebraCabinet cabinet = new AlgebraCabinet();
            cabinet.make(0, n, 23);
            for (int e = -1; e <= n; e++) {
                boolean right = e >= 0 && e < n;
                dueIf(right, "a of set", cabinet.set(0, 0, e, 0, 0), OUTSIDE);
                dueIf(right, "b of set", cabinet.set(0, 0, 0, e, 0), OUTSIDE);
                dueIf(right, "v of set", cabinet.set(0, 0, 0, 0, e), OUTSIDE);
                dueIf(right, "a of set, arity 1", cabinet.set(0, 1, e, 0, 0), OUTSIDE);
                dueIf(right, "a of cell", cabinet.cell(0, 0, 2, e, 0), INDEX);
                dueIf(right, "b of cell", cabinet.cell(0, 0, 2, 0, e), INDEX);
                dueIf(right, "a of cell, arity 1", cabinet.cell(0, 1, 1, e, 0), INDEX);
                dueIf(right, "row of stamp", cabinet.stamp(0, 0, e, 0, 1), INDEX);
                dueIf(right, "to of stamp", cabinet.stamp(0, 0, 0, e, 1), INDEX);
                dueIf(right, "a of powers", cabinet.powers(0, 0, e), OUTSIDE);
                dueIf(right, "a of link", cabinet.link(0, e, 0), OUTSIDE);
                dueIf(right, "b of link", cabinet.link(0, 0, e), OUTSIDE);
                dueIf(right, "bits of span", cabinet.span(0, e < 0 ? e : 1 << e), OUTSIDE);
            }
        }
    }

    private static void dueIf(boolean right, String call, int got, int refusal) {
        Due.due(call, Math.min(got, 0), right ? 0 : refusal);
    }

    /** "and no to four OPERATIONS 0, 1, ..". */
    private static void operations() {
        int[] arities = {0, 1, 11, 111, 1111};
        for (int many = 0; many <= 4; many++) {
            AlgebraCabinet cabinet = new AlgebraCabinet();
            Due.due("make of operations", cabinet.make(0, 7, arities[many]), many);
            for (int operation = -1; operation <= 5; operation++) {
                boolean right = operation >= 0 && operation < many;
                Due.due("set", cabinet.set(0, operation, 0, 0, operation + 1), right ? 0 : OUTSIDE);
                Due.due("cell", cabinet.cell(0, operation, 0, 0, 0), right ? operation + 1 : OUTSIDE);
            }
            Due.dueText("tell", Due.told(cabinet, 0), "7;c1;c2;c3;c4".substring(0, 1 + 3 * many));
        }
        Due.due("five operations", new AlgebraCabinet().make(0, 7, 11111), OUTSIDE);
        Due.due("five operations", Due.read(new AlgebraCabinet(), 0, "7;c1;c2;c3;c4;c5"), -113);
    }

    /** Seven elements and four operations of arity 2: each call looks at the last cell too, and none behind it. */
    private static void largestAlgebra() {
        String plus = "0123456" + "1234560" + "2345601" + "3456012" + "4560123" + "5601234" + "6012345";
        String text = "7;b" + plus + ";b" + plus + ";b" + plus + ";b" + plus;
        AlgebraCabinet cabinet = new AlgebraCabinet();
        Due.read(cabinet, 7, text);
        Due.read(cabinet, 0, text.substring(0, 204) + "6");
        cabinet.make(1, 1, 3333);
        Due.laws(cabinet, 0, "a(x,y)=b(x,y);c(x,y)=d(x,y);d(d(x,y),z)=d(x,d(y,z))");
        Due.due("traits", cabinet.traits(7, 3), 1 + 2 + 4 + 8);
        Due.due("traits by another last cell", cabinet.traits(0, 3), 2 + 4);
        Due.due("powers", cabinet.powers(7, 3, 6), 7);
        Due.due("powers by another last cell", cabinet.powers(0, 3, 6), 1);
        Due.due("centre", cabinet.centre(7, 3), 127);
        Due.due("holds", cabinet.holds(7, 0), NONE);
        Due.due("holds by another last cell", cabinet.holds(0, 0), 1);
        Due.due("witness of the last cell", cabinet.witness(0, 0, 1), 49 * 6 + 7 * 6);
        Due.due("parts", cabinet.part(7, NONE), 2);
        Due.due("span", cabinet.span(7, 64), 127);
        Due.due("sub", cabinet.sub(7, 1, 2), 7);
        Due.due("congruences", cabinet.congruence(7, NONE), 2);
        Due.due("link", cabinet.link(7, 5, 6), 0);
        Due.due("bound", cabinet.bound(7, 0, 1, false), 1);
        Due.due("quotient", cabinet.quotient(7, 1, 3), 7);
        Due.due("maps", cabinet.map(7, 7, 0, NONE), 7);
        Due.due("maps by another last cell", cabinet.map(7, 0, 3, NONE), 0);
        Due.due("product", cabinet.product(7, 1, 4), 7);
        Due.due("product the other way", cabinet.product(1, 7, 5), 7);
        for (int drawer = 2; drawer <= 5; drawer++) {
            Due.due("all are the same", cabinet.alike(7, drawer), 2);
        }
        Due.due("not with another last cell", cabinet.alike(7, 0), 0);
        cabinet.make(0, 7, 3333);
        Due.due("traits without an e", cabinet.traits(0, 3), 1 + 2 + 32);
        Due.due("least", cabinet.least(7, 6), 6);
        Due.due("least is the same", cabinet.alike(6, 7), 2);
        Due.due("functions", cabinet.function(7, NONE), 7);
        Due.due("many models", cabinet.models(7, 3333, 0, true), MANY);
    }

    /** What a larger algebra, or a longer list, has left behind has no say. */
    private static void smallerInTheSameDrawer() {
        AlgebraCabinet used = new AlgebraCabinet();
        String larger = "7" + (";b" + "6".repeat(49)).repeat(4);
        for (int drawer = 0; drawer < 8; drawer++) {
            Due.read(used, drawer, larger);
        }
        for (int i = 0; i < 6; i++) {
            Due.laws(used, 0, "x=d&y=c(x,z)&z=b(y,x)&x=a(z,z)>x=y;z=d;y=d;x=d;y=z;x=y&y=z>a(z,z)=x");
        }
        String[] texts = {"3;u120", "2;c1;u01", "4", "2;b0001;c0", "1"};
        for (String text : texts) {
            AlgebraCabinet cabinet = new AlgebraCabinet();
            Due.dueText("answers for " + text, answersFor(used, text), answersFor(cabinet, text));
        }
    }

    private static String answersFor(AlgebraCabinet cabinet, String text) {
        StringBuilder answers = new StringBuilder();
        Due.read(cabinet, 0, text);
        Due.read(cabinet, 1, text);
        Due.laws(cabinet, 0, "x=y");
        for (int what = 0; what < 4; what++) {
            answers.append(' ').append(cabinet.about(0, what));
        }
        answers.append(' ').append(cabinet.tell(0)).append(' ').append(cabinet.alike(0, 1));
        answers.append(' ').append(cabinet.part(0, NONE)).append(' ').append(cabinet.congruence(0, NONE));
        answers.append(' ').append(cabinet.link(0, 0, 0)).append(' ').append(cabinet.map(0, 1, 0, NONE));
        answers.append(' ').append(cabinet.function(0, NONE)).append(' ').append(cabinet.least(0, 2));
        answers.append(' ').append(cabinet.fails(0, 0, 0)).append(' ').append(cabinet.witness(0, 0, 0));
        answers.append(' ').append(cabinet.fails(0, 0, 1)).append(' ').append(cabinet.models(2, 2, 0, false));
        return answers.append(' ').append(cabinet.alike(1, 2)).toString();
    }

    /** "of arity 0 one cell; of arity 1 a cell for each element a; of arity 2 .. ROW 0 first, .. in row a by b." */
    private static void rows() {
        AlgebraCabinet cabinet = new AlgebraCabinet();
        Due.due("cells", cabinet.make(0, 3, 3213), 9 + 1 + 3 + 9);
        String line = "012" + "120" + "201" + "2" + "021" + "210" + "102" + "021";
        int at = 0;
        for (int operation = 0; operation < 4; operation++) {
            int rows = operation == 1 ? 1 : 3;
            int columns = operation == 1 || operation == 2 ? 1 : 3;
            for (int place = 0; place < rows * columns; place++) {
                cabinet.set(0, operation, place / columns, place % columns, line.charAt(at) - '0');
                at++;
            }
        }
        Due.dueText("tell", Due.told(cabinet, 0), "3;b012120201;c2;u021;b210102021");
    }

    /** "if they have as many operations, of the same arities in order": sizes have no say. */
    private static void oneSignature() {
        int[][] pairs = {{0, 0}, {1, 1}, {3, 3}, {123, 123}, {3333, 3333}, {0, 1}, {1, 11}, {3, 33}, {13, 31}, {123, 321},
            {22, 222}, {3331, 3332}, {1333, 2333}, {1, 2}, {2, 3}, {1111, 111}};
        for (int[] pair : pairs) {
            AlgebraCabinet cabinet = new AlgebraCabinet();
            cabinet.make(0, 3, pair[0]);
            cabinet.make(1, 2, pair[1]);
            boolean one = pair[0] == pair[1];
            String name = pair[0] + " and " + pair[1];
            Due.due("alike " + name, cabinet.alike(0, 1), one ? 0 : UNFIT);
            Due.due("alike " + name, cabinet.alike(1, 0), one ? 0 : UNFIT);
            Due.isTrue("maps " + name, one == (cabinet.map(0, 1, 0, NONE) >= 1));
            Due.due("product " + name, cabinet.product(0, 1, 2), one ? 6 : UNFIT);
        }
    }

    /** "Lines of one length are in ORDER by the first place where they differ, the lesser number first." */
    private static void order() {
        AlgebraCabinet cabinet = new AlgebraCabinet();
        cabinet.make(0, 2, 0);
        cabinet.make(1, 7, 0);
        for (int k = 0; k < 49; k++) {
            Due.due("map " + k, cabinet.map(0, 1, 0, k), k);
        }
        int last = -1;
        cabinet.make(2, 6, 0);
        for (int k = 0; k < 203; k++) {
            int line = cabinet.congruence(2, k);
            Due.isTrue("partition " + k + " is behind the one ahead", line > last);
            last = line;
        }
    }

    /** "TOLD AS A NUMBER it is ((l0 * 7 + l1) * 7 + l2) and so on", of one number and of seven 6. */
    private static void toldAsNumber() {
        AlgebraCabinet cabinet = new AlgebraCabinet();
        cabinet.make(0, 1, 0);
        cabinet.make(1, 7, 0);
        Due.due("one to one", cabinet.map(0, 0, 0, 0), 0);
        Due.due("one to seven", cabinet.map(0, 1, 0, 6), 6);
        Due.due("seven to seven", cabinet.map(1, 1, 0, 823542), 823542);
        Due.due("seven to seven", cabinet.map(1, 1, 3, 1), Due.line("0123465"));
        Due.due("a function", cabinet.function(1, 0), Due.line("0123456"));
        Due.due("seven places", cabinet.congruence(1, 876), ((((1 * 7 + 2) * 7 + 3) * 7 + 4) * 7 + 5) * 7 + 6);
    }

    /** "its decimal digits, the lowest first, are 1 more than the arities .. (so 1, 2, 3); 0: no operations": all to 40000. */
    private static void arities() {
        AlgebraCabinet cabinet = new AlgebraCabinet();
        for (int number = 0; number <= 40000; number++) {
            if (number % 200 == 0) {
                cabinet = new AlgebraCabinet();
            }
            boolean right = Due.areArities(number);
            Due.due("make of arities " + number, cabinet.make(0, 2, number), right ? Due.cells(2, number) : OUTSIDE);
            if (right) {
                Due.due("about", cabinet.about(0, 1), number);
            }
        }
        for (int number : new int[] {-1, -2, -3, -11, -3333, Integer.MIN_VALUE, Integer.MAX_VALUE}) {
            Due.due("make of arities " + number, cabinet.make(0, 2, number), OUTSIDE);
        }
    }

    /** "CHANGES are the calls of .. that are not refused (also where nothing becomes another)." */
    private static void changesWhereNothingBecomesAnother() {
        for (int kind = 0; kind < 10; kind++) {
            AlgebraCabinet cabinet = new AlgebraCabinet();
            Due.laws(cabinet, 0, "x=x");
            cabinet.make(3, 2, 3);
            cabinet.make(1, 1, 3);
            Due.isTrue("change " + kind, sameAgain(cabinet, kind) >= 0);
            Due.dueText("nothing became another by " + kind, Due.told(cabinet, 3), "2;b0000");
            Due.due("a change all the same: " + kind, cabinet.count(2), 3);
            Due.due("it is taken back: " + kind, cabinet.undo(), 3);
            Due.dueText("behind undo of " + kind, Due.told(cabinet, 3), "2;b0000");
            Due.due("then the one ahead: " + kind, cabinet.undo(), 1);
        }
    }

    private static int sameAgain(AlgebraCabinet cabinet, int kind) {
        switch (kind) {
            case 0: return cabinet.make(3, 2, 3);
            case 1: return cabinet.set(3, 0, 1, 1, 0);
            case 2: return cabinet.stamp(3, 0, 0, 1, 0);
            case 3: return cabinet.stamp(3, 0, 1, 1, 2);
            case 4: return Due.read(cabinet, 3, "2;b0000");
            case 5: return cabinet.sub(3, cabinet.part(3, NONE) - 1, 3);
            case 6: return cabinet.quotient(3, cabinet.congruence(3, NONE) - 1, 3);
            case 7: return cabinet.product(3, 1, 3);
            case 8: return cabinet.least(3, 3);
            default: return cabinet.model(2, 3, 0, 0, 3);
        }
    }

    /** The calls that are not named there are none, whatever they answer. */
    private static void callsThatAreNoChanges() {
        Scene.noChange("feed, trim, out", c -> c.out(c.trim(c.feed(1, 2, 3, 4, 5))));
        Scene.noChange("cell", c -> c.cell(0, 0, 2, 1, 1));
        Scene.noChange("about", c -> c.about(0, 0));
        Scene.noChange("tell", c -> c.tell(0));
        Scene.noChange("traits", c -> c.traits(0, 0));
        Scene.noChange("powers", c -> c.powers(0, 0, 1));
        Scene.noChange("centre", c -> c.centre(0, 0));
        Scene.noChange("laws", c -> Due.laws(c, c.trim(0), "x=x"));
        Scene.noChange("fault", c -> c.fault());
        Scene.noChange("holds", c -> c.holds(0, 0));
        Scene.noChange("fails", c -> c.fails(0, 0, 2));
        Scene.noChange("witness", c -> c.witness(0, 0, 2));
        Scene.noChange("span", c -> c.span(0, 2));
        Scene.noChange("part", c -> c.part(0, 1));
        Scene.noChange("link", c -> c.link(2, 0, 1));
        Scene.noChange("congruence", c -> c.congruence(2, 3));
        Scene.noChange("bound", c -> c.bound(2, 1, 2, true));
        Scene.noChange("map", c -> c.map(0, 0, 3, 1));
        Scene.noChange("alike", c -> c.alike(0, 1));
        Scene.noChange("function", c -> c.function(0, 1));
        Scene.noChange("functions of many", c -> c.function(5, 1));
        Scene.noChange("models", c -> c.models(2, 123, 0, true));
        Scene.noChange("count", c -> c.count(2));
    }

    /** "the latest 16 are kept": the sixteenth from the end is, the seventeenth is not. */
    private static void sixteenAreKept() {
        for (int changes : new int[] {0, 1, 15, 16, 17, 31, 32, 33, 49, 100}) {
            AlgebraCabinet cabinet = new AlgebraCabinet();
            cabinet.make(0, 7, 2);
            for (int i = 1; i < changes; i++) {
                cabinet.set(0, 0, i % 7, 0, i % 6 + 1);
            }
            int made = Math.max(changes, 1);
            int kept = Math.min(made, 16);
            Due.due("kept of " + made, cabinet.count(2), kept);
            for (int i = 0; i < kept; i++) {
                Due.due("undo " + i + " of " + made, cabinet.undo(), 0);
                Due.due("kept behind undo", cabinet.count(2), kept - 1 - i);
            }
            Due.due("undo of one that is not kept", cabinet.undo(), NONE);
            Due.dueText("what stays of " + made, Due.told(cabinet, 0), stays(made - kept));
            Due.due("undo again", cabinet.undo(), NONE);
        }
    }

    private static String stays(int changes) {
        if (changes == 0) {
            return "";
        }
        int[] cells = new int[7];
        for (int i = 1; i < changes; i++) {
            cells[i % 7] = i % 6 + 1;
        }
        StringBuilder text = new StringBuilder("7;u");
        for (int cell : cells) {
            text.append(cell);
        }
        return text.toString();
    }

    /** "(one that is taken back is kept no more)": neither it nor one that was lost earlier comes back. */
    private static void takenBackIsKeptNoMore() {
        AlgebraCabinet cabinet = new AlgebraCabinet();
        for (int i = 0; i < 17; i++) {
            cabinet.make(i % 2, 1 + i % 7, 0);
        }
        Due.due("kept", cabinet.count(2), 16);
        Due.due("undo", cabinet.undo(), 0);
        Due.due("kept behind undo", cabinet.count(2), 15);
        Due.due("undo is no change: the one ahead", cabinet.undo(), 1);
        Due.due("kept behind undo", cabinet.count(2), 14);
        cabinet.drop(0);
        Due.due("kept behind another change", cabinet.count(2), 15);
        Due.due("undo", cabinet.undo(), 0);
        for (int i = 14; i >= 1; i--) {
            Due.due("undo", cabinet.undo(), i % 2);
        }
        Due.due("none is kept", cabinet.undo(), NONE);
        Due.due("drawer 0 has what is not taken back", cabinet.about(0, 0), 1);
        Due.due("drawer 1 had nothing", cabinet.about(1, 0), EMPTY);
    }

    /** Changes and undos in turn, by which the row of those that are kept goes round many times. */
    private static void changesGoRound() {
        for (int seed = 0; seed < 20; seed++) {
            Random random = new Random(seed);
            AlgebraCabinet cabinet = new AlgebraCabinet();
            int[] sizes = new int[8];
            Deque<int[]> kept = new ArrayDeque<>();
            for (int i = 0; i < 150; i++) {
                int drawer = random.nextInt(8);
                if (random.nextInt(100) < (i / 30 % 2 == 0 ? 80 : 40)) {
                    kept.addLast(new int[] {drawer, sizes[drawer]});
                    sizes[drawer] = sizes[drawer] == 0 || random.nextInt(4) > 0 ? 1 + random.nextInt(7) : 0;
                    int size = sizes[drawer];
                    Due.isTrue("change", (size == 0 ? cabinet.drop(drawer) : cabinet.make(drawer, size, 0)) >= 0);
                    if (kept.size() > 16) {
                        kept.removeFirst();
                    }
                } else if (kept.isEmpty()) {
                    Due.due("undo of none", cabinet.undo(), NONE);
                } else {
                    int[] back = kept.removeLast();
                    sizes[back[0]] = back[1];
                    Due.due("undo", cabinet.undo(), back[0]);
                    drawer = back[0];
                }
                Due.due("kept", cabinet.count(2), kept.size());
                Due.due("size", cabinet.about(drawer, 0), sizes[drawer] == 0 ? EMPTY : sizes[drawer]);
            }
        }
    }

    /** "THE TAPE takes bytes, at most 400": 400 are all read. */
    private static void tape() {
        AlgebraCabinet cabinet = new AlgebraCabinet();
        cabinet.make(0, 3, 0);
        Due.type(cabinet, "x=" + " ".repeat(397) + "y");
        Due.due("bytes", cabinet.count(0), 400);
        Due.due("one feed more", cabinet.feed(0, 0, 0, 0, 0), MANY);
        Due.due("the first and the last byte", cabinet.laws(0), 1);
        Due.due("the law", cabinet.fails(0, 0, 0), 6);
        Due.due("a full tape with a fault at its last byte", Due.laws(cabinet, 0, "x=x" + "\n".repeat(396) + "x"), -499);
        Due.due("the end of a full tape", Due.laws(cabinet, 0, "x=x" + " ".repeat(396) + ";"), -500);
        Due.due("400 signs", Due.laws(cabinet, 0, "x=x>".repeat(100)), -107);
        Due.due("the end behind blanks", Due.laws(cabinet, 0, "x=x" + "&x=x".repeat(39) + " ".repeat(241)), -500);
    }

    /** "laws() and read() use it up, whatever they answer": none of its bytes is ahead of the next text. */
    private static void tapeIsUsedUp() {
        String[] texts = {"x=y", "3;u120", "x=", "3;", "w", "", "x=y".repeat(100)};
        for (String text : texts) {
            for (int number : new int[] {0, 3, -1, 8}) {
                AlgebraCabinet cabinet = new AlgebraCabinet();
                Due.laws(cabinet, number, text);
                Due.due("tape behind laws", cabinet.count(0), 0);
                Due.due("a text behind it", Due.read(cabinet, 1, "4;u3210"), 4);
                Due.dueText("a text behind it", Due.told(cabinet, 1), "4;u3210");
                Due.read(cabinet, number, text);
                Due.due("tape behind read", cabinet.count(0), 0);
                Due.due("a text behind it", Due.laws(cabinet, 1, "x=x;y=y"), 2);
            }
        }
    }

    /** "OUT has bytes, none at first.": and none by any call but tell(). */
    private static void outAtFirst() {
        AlgebraCabinet cabinet = new AlgebraCabinet();
        Due.due("out", cabinet.out(0), NONE);
        Due.due("bytes", cabinet.count(1), 0);
        Due.read(cabinet, 0, "2;u10");
        Due.laws(cabinet, 0, "x=x");
        cabinet.tell(1);
        cabinet.tell(8);
        Due.due("out behind other calls", cabinet.out(0), NONE);
        Due.due("bytes behind other calls", cabinet.count(1), 0);
        cabinet.tell(0);
        Due.due("bytes behind tell", cabinet.count(1), 5);
        cabinet.drop(0);
        Due.due("OUT stays without its drawer", cabinet.out(4), '0');
        cabinet.undo();
        Due.due("OUT stays behind undo", cabinet.count(1), 5);
    }
}
