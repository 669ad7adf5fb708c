import java.util.ArrayList;
import java.util.HashSet;
import java.util.List;
import java.util.Set;
import java.util.TreeSet;

/** The sentences of promises 17 to 36, and of parts 3 to 7 of the section "Terms", that name an edge. */
public final class SearchEdgesTest {
    private static final int NONE = AlgebraCabinet.NONE, EMPTY = AlgebraCabinet.EMPTY, OUTSIDE = AlgebraCabinet.OUTSIDE;
    private static final int UNFIT = AlgebraCabinet.UNFIT, MANY = AlgebraCabinet.MANY;

    public static void main(String[] args) {
        lawsAnswersAndStays();
        faultOfTheLatestText();
        holdsOfEachLaw();
        failsOfTheLastLaw();
        failsOfNoneAndAll();
        spanWithoutElements();
        spanOfLongWays();
        partsOfOneAndOfAll();
        partsHaveArityZero();
        subOfEachPart();
        linkOfEachPair();
        congruencesAtBothEnds();
        boundOfEachTwo();
        boundOfSeven();
        quotientAtBothEnds();
        quotientOfEach();
        mapsOfEachWhat();
        noMaps();
        alikeOfAllKinds();
        leastAtItsEnds();
        productOfEachSizes();
        productOfArityTwo();
        functionsUpTo300();
        functionsBehindMany();
        functionsOfArityTwo();
        functionsAtBothEnds();
        modelsUpTo60000();
        modelAtBothEnds();
        modelOfNone();
        countsAtTheirMost();
        Due.finish();
    }

    /** laws: "how many laws; .. (the list stays as it was)", by a full list, and by each fault. */
    private static void lawsAnswersAndStays() {
        AlgebraCabinet cabinet = new AlgebraCabinet();
        cabinet.make(0, 3, 0);
        for (int list = 0; list < 4; list++) {
            Due.due("one law", Due.laws(cabinet, list, "x=y"), 1);
            Due.due("six laws", Due.laws(cabinet, list, "x=x;y=y;z=z;x=y>x=y;z=z;x=y"), 6);
            String[] faults = {"", "x=x;x=x;x=x;x=x;x=x;x=x;x=x", "a=a(x)", "a(a(a(a(a(a(a(a(x))))))))=x", "y=x;", "x=x;x=w"};
            for (String text : faults) {
                Due.isTrue("a fault", Due.laws(cabinet, list, text) <= -100);
                Due.due("the list stays", cabinet.holds(0, list), 5);
                Due.due("the list stays", cabinet.fails(0, list, 5), 6);
            }
            Due.due("fewer laws", Due.laws(cabinet, list, "x=x"), 1);
            Due.due("those ahead are gone", cabinet.holds(0, list), NONE);
            Due.due("those ahead are gone", cabinet.fails(0, list, 1), OUTSIDE);
        }
    }

    /** fault: "0: it had none, or there was none. (A refused call reads none.)" */
    private static void faultOfTheLatestText() {
        AlgebraCabinet cabinet = new AlgebraCabinet();
        Due.due("there was none", cabinet.fault(), 0);
        cabinet.laws(4);
        cabinet.read(8);
        Due.due("refused calls read none", cabinet.fault(), 0);
        Object[][] texts = {{"x=", true, 1}, {"x=x", true, 0}, {"a=a(x)", true, 2}, {"3", false, 0}, {"3;c3", false, 2},
            {"a(a(a(a(a(a(a(a(x", true, 3}, {"1;c0;c0;c0;c0;", false, 3}, {"x=x;x=x;x=x;x=x;x=x;x=x;x", true, 4}, {"", false, 1}};
        for (Object[] text : texts) {
            int answer = (Boolean) text[1] ? Due.laws(cabinet, 3, (String) text[0]) : Due.read(cabinet, 7, (String) text[0]);
            Due.due("fault of " + text[0], cabinet.fault(), (Integer) text[2]);
            Due.isTrue("its answer", answer <= -100 == cabinet.fault() > 0);
            Due.due("fault asked again", cabinet.fault(), (Integer) text[2]);
            Due.laws(cabinet, 4, "x=x");
            Due.due("fault behind a refused laws", cabinet.fault(), (Integer) text[2]);
            Due.read(cabinet, -1, "3;c3");
            Due.due("fault behind a refused read", cabinet.fault(), (Integer) text[2]);
        }
    }

    /** holds: "The first law of a list, from 0 on, that some assignment does not keep; NONE: all are kept." */
    private static void holdsOfEachLaw() {
        for (int broken = 0; broken < 64; broken++) {
            StringBuilder text = new StringBuilder();
            for (int law = 0; law < 6; law++) {
                text.append(law > 0 ? ";" : "").append((broken >> law & 1) != 0 ? "x=y" : "x=x");
            }
            AlgebraCabinet cabinet = new AlgebraCabinet();
            cabinet.make(0, 2, 0);
            cabinet.make(1, 1, 0);
            Due.due("laws", Due.laws(cabinet, 0, text.toString()), 6);
            Due.due("holds " + text, cabinet.holds(0, 0), broken == 0 ? NONE : Integer.numberOfTrailingZeros(broken));
            Due.due("holds in one element", cabinet.holds(1, 0), NONE);
        }
        // the last of all assignments alone breaks the law
        AlgebraCabinet cabinet = new AlgebraCabinet();
        Due.read(cabinet, 0, "7;u0123450");
        Due.laws(cabinet, 0, "a(x)=x&y=y&z=z>x=x;x=a(y)>a(x)=x;a(x)=x");
        Due.due("by its last element", cabinet.holds(0, 0), 2);
    }

    /** fails, witness: "OUTSIDE: no such law": of each number of laws the last one is there, the next is not. */
    private static void failsOfTheLastLaw() {
        for (int laws = 1; laws <= 6; laws++) {
            AlgebraCabinet cabinet = new AlgebraCabinet();
            cabinet.make(0, 3, 0);
            Due.laws(cabinet, 0, "x=x;".repeat(laws - 1) + "z=y");
            Due.due("fails of the last", cabinet.fails(0, 0, laws - 1), 6);
            Due.due("witness of the last", cabinet.witness(0, 0, laws - 1), 1);
            Due.due("fails of the next", cabinet.fails(0, 0, laws), OUTSIDE);
            Due.due("witness of the next", cabinet.witness(0, 0, laws), OUTSIDE);
            Due.due("fails of -1", cabinet.fails(0, 0, -1), OUTSIDE);
            Due.due("witness of -1", cabinet.witness(0, 0, -1), OUTSIDE);
        }
    }

    /** fails: "How many assignments do not keep law k."; witness: "NONE: there is none." */
    private static void failsOfNoneAndAll() {
        AlgebraCabinet cabinet = new AlgebraCabinet();
        Due.read(cabinet, 0, "7;c0;c1;u0000001");
        Due.laws(cabinet, 0, "x=x&y=y&z=z>a=b;x=y&y=z>x=z;c(x)=b&c(y)=b&c(z)=b>c(c(x))=b");
        Due.due("all of 343", cabinet.fails(0, 0, 0), 343);
        Due.due("the first of all", cabinet.witness(0, 0, 0), 0);
        Due.due("none", cabinet.fails(0, 0, 1), 0);
        Due.due("the first of none", cabinet.witness(0, 0, 1), NONE);
        Due.due("the last alone", cabinet.fails(0, 0, 2), 1);
        Due.due("the last alone", cabinet.witness(0, 0, 2), 342);
    }

    /** span: "The least part, perhaps without elements, that has all elements of bits". */
    private static void spanWithoutElements() {
        for (int n = 1; n <= 7; n++) {
            AlgebraCabinet cabinet = new AlgebraCabinet();
            cabinet.make(0, n, 0);
            cabinet.make(1, n, 23);
            Due.read(cabinet, 2, n + ";c" + (n - 1));
            Due.due("span of nothing, without operations", cabinet.span(0, 0), 0);
            Due.due("span of nothing, without arity 0", cabinet.span(1, 0), 0);
            Due.due("span of nothing, with arity 0", cabinet.span(2, 0), 1 << n - 1);
            Due.due("span of all", cabinet.span(0, (1 << n) - 1), (1 << n) - 1);
            Due.due("span of one more", cabinet.span(0, 1 << n), OUTSIDE);
            Due.due("span of the last", cabinet.span(1, 1 << n - 1), 1 << n - 1 | 1);
            Due.due("span of -1", cabinet.span(0, -1), OUTSIDE);
            Due.due("parts are not changed", cabinet.part(0, NONE), (1 << n) - 1);
        }
    }

    /** The part grows one element at a time, up or down, by one argument or two, with arity 0 first. */
    private static void spanOfLongWays() {
        AlgebraCabinet cabinet = new AlgebraCabinet();
        Due.read(cabinet, 0, "7;u1234566");
        Due.read(cabinet, 1, "7;u0012345");
        Due.read(cabinet, 2, "7;b" + "1000000" + "0200000" + "0030000" + "0004000" + "0000500" + "0000060" + "0000006");
        Due.read(cabinet, 3, "7;b" + "0200000" + "3000000" + "4000000" + "5000000" + "6000000" + "0000000" + "0000000");
        Due.read(cabinet, 4, "7;u1234566;c0");
        Due.read(cabinet, 5, "7;u6012345;u0000000");
        int[][] rows = {{0, 1, 127}, {0, 2, 126}, {0, 64, 64}, {1, 64, 127}, {1, 1, 1}, {2, 1, 127}, {2, 64, 64}, {3, 1, 1},
            {3, 3, 127}, {3, 2, 127}, {4, 0, 127}, {5, 1, 127}, {5, 64, 127}};
        for (int[] row : rows) {
            Due.due("span of " + row[1] + " in " + row[0], cabinet.span(row[0], row[1]), row[2]);
        }
    }

    /** "The parts of an algebra are all but the one without elements, numbered from 0 by their bits, the lesser first." */
    private static void partsOfOneAndOfAll() {
        for (int n = 1; n <= 7; n++) {
            AlgebraCabinet cabinet = new AlgebraCabinet();
            int all = (1 << n) - 1;
            cabinet.make(0, n, 0);
            Due.due("all parts", cabinet.part(0, NONE), all);
            Due.due("the first", cabinet.part(0, 0), 1);
            Due.due("the last", cabinet.part(0, all - 1), all);
            Due.due("one more", cabinet.part(0, all), OUTSIDE);
            Due.due("k -2", cabinet.part(0, -2), OUTSIDE);
            Due.read(cabinet, 1, n + ";u" + "1234567".substring(0, n - 1) + "0");
            Due.due("one part", cabinet.part(1, NONE), 1);
            Due.due("one part", cabinet.part(1, 0), all);
            Due.due("one more", cabinet.part(1, 1), OUTSIDE);
        }
    }

    /** "A PART is a set of elements that has all values of operations of elements in it (so also those of arity 0)." */
    private static void partsHaveArityZero() {
        for (int e = 0; e < 7; e++) {
            AlgebraCabinet cabinet = new AlgebraCabinet();
            Due.read(cabinet, 0, "7;c" + e);
            Due.due("parts with one of arity 0", cabinet.part(0, NONE), 64);
            Due.due("the first", cabinet.part(0, 0), 1 << e);
            for (int k = 0; k < 64; k++) {
                Due.isTrue("each has it", (cabinet.part(0, k) >> e & 1) == 1);
            }
            Due.read(cabinet, 1, "7;c" + e + ";c" + (e + 1) % 7);
            Due.due("parts with two of arity 0", cabinet.part(1, NONE), 32);
            Due.due("the first", cabinet.part(1, 0), 1 << e | 1 << (e + 1) % 7);
        }
    }

    /** sub: "The drawer to has part k as an algebra, its elements numbered in their order: its size." */
    private static void subOfEachPart() {
        for (int k = 0; k < 127; k++) {
            AlgebraCabinet cabinet = new AlgebraCabinet();
            String lesserOfSeven = "0000000" + "0111111" + "0122222" + "0123333" + "0123444" + "0123455" + "0123456";
            Due.read(cabinet, 0, "7;u0123456;b" + lesserOfSeven);
            int size = Integer.bitCount(k + 1);
            Due.due("sub", cabinet.sub(0, k, 7), size);
            StringBuilder lesser = new StringBuilder();
            for (int place = 0; place < size * size; place++) {
                lesser.append(Math.min(place / size, place % size));
            }
            Due.dueText("sub " + k, Due.told(cabinet, 7), size + ";u" + "0123456".substring(0, size) + ";b" + lesser);
            Due.due("the drawer itself", cabinet.about(0, 0), 7);
        }
        AlgebraCabinet cabinet = new AlgebraCabinet();
        cabinet.make(0, 7, 0);
        Due.due("behind the last", cabinet.sub(0, 127, 7), OUTSIDE);
        Due.due("to has nothing then", cabinet.about(7, 0), EMPTY);
    }

    /** link: "The congruence with the most classes by which a and b are of one". */
    private static void linkOfEachPair() {
        for (int n = 1; n <= 7; n++) {
            AlgebraCabinet cabinet = new AlgebraCabinet();
            cabinet.make(0, n, 0);
            int most = cabinet.congruence(0, NONE);
            for (int a = 0; a < n; a++) {
                for (int b = 0; b < n; b++) {
                    StringBuilder line = new StringBuilder("0123456".substring(0, n));
                    line.setCharAt(Math.max(a, b), (char) ('0' + Math.min(a, b)));
                    int number = cabinet.link(0, a, b);
                    Due.due("link", cabinet.congruence(0, number), Due.line(line.toString()));
                    Due.isTrue("one with itself is the last", (a == b) == (number == most - 1));
                }
            }
            Due.due("a is n", cabinet.link(0, n, 0), OUTSIDE);
            Due.due("b is n", cabinet.link(0, 0, n), OUTSIDE);
        }
        // what two have joined goes on, pair by pair, to the other end
        AlgebraCabinet cabinet = new AlgebraCabinet();
        Due.read(cabinet, 0, "7;u1234566");
        Due.due("all are joined", cabinet.link(0, 0, 1), 0);
        Due.due("the last two alone", cabinet.congruence(0, cabinet.link(0, 5, 6)), Due.line("0123455"));
        Due.due("from the third on", cabinet.congruence(0, cabinet.link(0, 2, 3)), Due.line("0122222"));
        Due.read(cabinet, 1, "7;b" + "1111111" + "2222222" + "3333333" + "4444444" + "5555555" + "6666666" + "6666666");
        Due.due("by the first argument", cabinet.link(1, 1, 0), 0);
        Due.read(cabinet, 2, "7;b" + "1234566".repeat(7));
        Due.due("by the second argument", cabinet.link(2, 0, 1), 0);
        Due.due("the last two by it", cabinet.congruence(2, cabinet.link(2, 6, 5)), Due.line("0123455"));
    }

    /** "numbered from 0 in the order of their lines (so that in which all are one class is 0)". */
    private static void congruencesAtBothEnds() {
        int[] partitions = {1, 2, 5, 15, 52, 203, 877};
        for (int n = 1; n <= 7; n++) {
            AlgebraCabinet cabinet = new AlgebraCabinet();
            cabinet.make(0, n, 0);
            int many = partitions[n - 1];
            Due.due("all partitions", cabinet.congruence(0, NONE), many);
            Due.due("all are one class", cabinet.congruence(0, 0), 0);
            Due.due("each is its own", cabinet.congruence(0, many - 1), Due.line("0123456".substring(0, n)));
            Due.due("one more", cabinet.congruence(0, many), OUTSIDE);
            Due.due("k -2", cabinet.congruence(0, -2), OUTSIDE);
            // a table of a plus 1 alone joins all, or none, if n is a prime
            Due.read(cabinet, 1, n + ";u" + "1234567".substring(0, n - 1) + "0");
            int divisors = n == 1 ? 1 : n == 4 ? 3 : n == 6 ? 4 : 2;
            Due.due("congruences of a turn", cabinet.congruence(1, NONE), divisors);
            Due.due("the last", cabinet.congruence(1, divisors - 1), Due.line("0123456".substring(0, n)));
            Due.due("one more", cabinet.congruence(1, divisors), OUTSIDE);
        }
    }

    /** bound: "that with the most classes that joins what either joins (up), or .. just what both join". */
    private static void boundOfEachTwo() {
        AlgebraCabinet cabinet = new AlgebraCabinet();
        Due.read(cabinet, 0, "4;b0000011101220123");
        // the congruences of a chain of four: its three steps are joined or not, in this order of joined steps
        int[] joined = {7, 3, 5, 1, 6, 2, 4, 0};
        for (int k = 0; k < 8; k++) {
            for (int l = 0; l < 8; l++) {
                int down = cabinet.bound(0, k, l, false);
                Due.due("down", down < 0 ? down : joined[down], joined[k] & joined[l]);
                int up = cabinet.bound(0, l, k, true);
                Due.due("up", up < 0 ? up : joined[up], joined[k] | joined[l]);
            }
            Due.due("k is 8", cabinet.bound(0, 8, k, true), OUTSIDE);
            Due.due("l is 8", cabinet.bound(0, k, 8, false), OUTSIDE);
        }
    }

    /** Of the 877 partitions of seven elements the first, the last, and those of two chains that cross. */
    private static void boundOfSeven() {
        AlgebraCabinet cabinet = new AlgebraCabinet();
        cabinet.make(0, 7, 0);
        Due.due("down to none", cabinet.bound(0, 0, 876, false), 876);
        Due.due("up to all", cabinet.bound(0, 876, 0, true), 0);
        Due.due("down of the first", cabinet.bound(0, 0, 0, false), 0);
        Due.due("up of the last", cabinet.bound(0, 876, 876, true), 876);
        int pairs = numberOf(cabinet, "0022446");
        int otherPairs = numberOf(cabinet, "0113355");
        int ends = numberOf(cabinet, "0123450");
        int threes = numberOf(cabinet, "0003336");
        Due.due("chained to the end", cabinet.bound(0, pairs, otherPairs, true), 0);
        Due.due("none in common", cabinet.bound(0, pairs, otherPairs, false), 876);
        Due.due("the ends", cabinet.congruence(0, cabinet.bound(0, pairs, ends, true)), Due.line("0022440"));
        Due.due("the ends the other way", cabinet.congruence(0, cabinet.bound(0, ends, pairs, true)), Due.line("0022440"));
        Due.due("some in common", cabinet.congruence(0, cabinet.bound(0, pairs, threes, false)), Due.line("0023446"));
        Due.due("some in common", cabinet.congruence(0, cabinet.bound(0, threes, otherPairs, false)), Due.line("0113356"));
        Due.due("two of three", cabinet.congruence(0, cabinet.bound(0, threes, ends, true)), Due.line("0003330"));
    }

    /** By halving, as the numbers go in the order of lines. */
    private static int numberOf(AlgebraCabinet cabinet, String line) {
        int low = 0;
        int high = 876;
        while (low < high) {
            int middle = (low + high) / 2;
            if (cabinet.congruence(0, middle) < Due.line(line)) {
                low = middle + 1;
            } else {
                high = middle;
            }
        }
        return low;
    }

    /** quotient: by congruence 0 one element, by the last the same algebra. */
    private static void quotientAtBothEnds() {
        for (int n = 1; n <= 7; n++) {
            String text = n + ";u" + "1234567".substring(0, n - 1) + "0;c" + (n - 1);
            AlgebraCabinet cabinet = new AlgebraCabinet();
            Due.read(cabinet, 7, text);
            int many = cabinet.congruence(7, NONE);
            Due.due("by all", cabinet.quotient(7, 0, 0), 1);
            Due.dueText("by all", Due.told(cabinet, 0), "1;u0;c0");
            Due.due("by none", cabinet.quotient(7, many - 1, 1), n);
            Due.dueText("by none", Due.told(cabinet, 1), text);
            Due.due("by one more", cabinet.quotient(7, many, 2), OUTSIDE);
            Due.due("to has nothing then", cabinet.about(2, 0), EMPTY);
        }
    }

    /** "its elements are the classes, numbered by their least elements, the least first": each of a chain of seven. */
    private static void quotientOfEach() {
        StringBuilder lesser = new StringBuilder();
        for (int place = 0; place < 49; place++) {
            lesser.append(Math.min(place / 7, place % 7));
        }
        for (int k = 0; k < 64; k++) {
            AlgebraCabinet cabinet = new AlgebraCabinet();
            Due.read(cabinet, 0, "7;b" + lesser + ";c6;u0012345");
            Due.due("it goes by few", cabinet.congruence(0, NONE), 7);
            Due.read(cabinet, 0, "7;b" + lesser + ";c6");
            Due.due("it goes by runs", cabinet.congruence(0, NONE), 64);
            int line = cabinet.congruence(0, k);
            Set<Integer> classes = new HashSet<>();
            for (int e = 0; e < 7; e++) {
                classes.add(line % 7);
                line /= 7;
            }
            int size = classes.size();
            StringBuilder chain = new StringBuilder();
            for (int place = 0; place < size * size; place++) {
                chain.append(Math.min(place / size, place % size));
            }
            Due.due("quotient " + k, cabinet.quotient(0, k, k % 8), size);
            Due.dueText("quotient " + k, Due.told(cabinet, k % 8), size + ";b" + chain + ";c" + (size - 1));
        }
        AlgebraCabinet cabinet = new AlgebraCabinet();
        Due.read(cabinet, 0, "7;u6543210");
        Due.due("classes that are no runs", cabinet.quotient(0, cabinet.link(0, 1, 5), 1), 6);
        Due.dueText("classes that are no runs", Due.told(cabinet, 1), "6;u514320");
    }

    /** "WHAT 0 all maps, 1 those with no two alike, 2 those that give each element there, 3 both." */
    private static void mapsOfEachWhat() {
        for (int n = 1; n <= 5; n++) {
            for (int m = 1; m <= 5; m++) {
                AlgebraCabinet cabinet = new AlgebraCabinet();
                cabinet.make(0, n, 0);
                cabinet.make(1, m, 0);
                for (int what = 0; what < 4; what++) {
                    List<Integer> lines = lines(n, m, what);
                    Due.due("maps of what " + what, cabinet.map(0, 1, what, NONE), lines.size());
                    if (!lines.isEmpty()) {
                        Due.due("the first", cabinet.map(0, 1, what, 0), lines.get(0));
                        Due.due("the last", cabinet.map(0, 1, what, lines.size() - 1), lines.get(lines.size() - 1));
                    }
                    Due.due("one more", cabinet.map(0, 1, what, lines.size()), OUTSIDE);
                    Due.due("k -2", cabinet.map(0, 1, what, -2), OUTSIDE);
                }
                Due.due("what 4", cabinet.map(0, 1, 4, NONE), OUTSIDE);
                Due.due("what -1", cabinet.map(0, 1, -1, NONE), OUTSIDE);
            }
        }
    }

    private static List<Integer> lines(int n, int m, int what) {
        List<Integer> lines = new ArrayList<>();
        for (int i = 0; i < Math.pow(m, n); i++) {
            int line = 0;
            Set<Integer> given = new HashSet<>();
            for (int e = n - 1; e >= 0; e--) {
                int there = i / (int) Math.pow(m, e) % m;
                line = line * 7 + there;
                given.add(there);
            }
            if (((what & 1) == 0 || given.size() == n) && ((what & 2) == 0 || given.size() == m)) {
                lines.add(line);
            }
        }
        return lines;
    }

    /** map: "k NONE: how many there are", also where there are none; then none has a number. */
    private static void noMaps() {
        AlgebraCabinet cabinet = new AlgebraCabinet();
        Due.read(cabinet, 0, "1;u0");
        Due.read(cabinet, 1, "2;u10");
        Due.read(cabinet, 2, "2;c0;c1");
        Due.read(cabinet, 3, "2;c1;c1");
        for (int what = 0; what < 4; what++) {
            Due.due("no map to what has no such element", cabinet.map(0, 1, what, NONE), 0);
            Due.due("no map 0", cabinet.map(0, 1, what, 0), OUTSIDE);
            Due.due("no map of two to one of arity 0", cabinet.map(3, 2, what, NONE), 0);
        }
        Due.due("one back", cabinet.map(1, 0, 0, NONE), 1);
        Due.due("one back gives each element", cabinet.map(1, 0, 2, 0), 0);
        Due.due("two of arity 0 may meet", cabinet.map(2, 3, 0, 0), Due.line("11"));
        Due.due("with no two alike they may not", cabinet.map(2, 3, 1, NONE), 0);
    }

    /** alike: "2 if two algebras have one size and one line, 1 if they are alike else, 0 if not. UNFIT". */
    private static void alikeOfAllKinds() {
        Object[][] rows = {{"1", "1", 2}, {"7", "7", 2}, {"6", "7", 0}, {"2;c1", "2;c1", 2}, {"2;c1", "2;c0", 1},
            {"2;c0", "3;c0", 0}, {"2;u00", "2;u11", 1}, {"2;u00", "2;u01", 0}, {"2;u01", "2;u10", 0}, {"1;b0", "1;b0", 2},
            {"2;u00;c0", "2;u00;c1", 0}, {"2;u00;c0", "2;u11;c1", 1}, {"2", "2;c0", UNFIT}, {"2;c0", "2;u00", UNFIT},
            {"7;u0000000;c6", "7;u0000000;c5", 1}, {"7;u0123456;c6", "7;u0123465;c6", 0}};
        for (Object[] row : rows) {
            AlgebraCabinet cabinet = new AlgebraCabinet();
            Due.read(cabinet, 0, (String) row[0]);
            Due.read(cabinet, 7, (String) row[1]);
            Due.due("alike " + row[0] + " " + row[1], cabinet.alike(0, 7), (Integer) row[2]);
            Due.due("alike " + row[1] + " " + row[0], cabinet.alike(7, 0), (Integer) row[2]);
            Due.due("alike to itself", cabinet.alike(0, 0), 2);
        }
        AlgebraCabinet cabinet = new AlgebraCabinet();
        String rows7 = "0".repeat(48);
        Due.read(cabinet, 0, "7;b" + rows7 + "0");
        Due.read(cabinet, 1, "7;b" + rows7 + "1");
        Due.due("another last cell", cabinet.alike(0, 1), 0);
    }

    /** least: "of all algebras alike with it the one whose line is first"; how many maps of what 3: 1 to all. */
    private static void leastAtItsEnds() {
        int numberings = 1;
        for (int n = 1; n <= 7; n++) {
            numberings *= n;
            AlgebraCabinet cabinet = new AlgebraCabinet();
            cabinet.make(0, n, 0);
            Due.due("all numberings", cabinet.least(0, 1), numberings);
            Due.read(cabinet, 2, n + ";b" + Integer.toString(n - 1).repeat(n * n));
            Due.due("all but one element", cabinet.least(2, 3), numberings / n);
            Due.dueText("0 in all cells", Due.told(cabinet, 3), n + ";b" + "0".repeat(n * n));
            Due.read(cabinet, 4, n + ";u" + "0012345".substring(0, n));
            Due.due("a way to 0 has one", cabinet.least(4, 4), 1);
        }
        AlgebraCabinet cabinet = new AlgebraCabinet();
        Due.read(cabinet, 0, "7;u6012345;c3");
        Due.due("a turn with a place has one", cabinet.least(0, 0), 1);
        Due.dueText("its least form", Due.told(cabinet, 0), "7;u1234560;c0");
        Due.read(cabinet, 1, "2;b1111;u10");
        Due.due("the first operation comes first", cabinet.least(1, 1), 1);
        Due.dueText("the first operation comes first", Due.told(cabinet, 1), "2;b0000;u10");
    }

    /** product: "UNFIT: .. or the size would be above 7": of all sizes, in both orders. */
    private static void productOfEachSizes() {
        for (int n = 1; n <= 7; n++) {
            for (int m = 1; m <= 7; m++) {
                AlgebraCabinet cabinet = new AlgebraCabinet();
                Due.read(cabinet, 0, n + ";c" + (n - 1) + ";u" + "1234567".substring(0, n - 1) + "0");
                Due.read(cabinet, 1, m + ";c" + (m - 1) + ";u" + "0123456".substring(0, m));
                int size = n * m;
                Due.due("product " + n + " " + m, cabinet.product(0, 1, 7), size <= 7 ? size : UNFIT);
                if (size > 7) {
                    Due.due("to has nothing then", cabinet.about(7, 0), EMPTY);
                    continue;
                }
                StringBuilder turned = new StringBuilder();
                for (int e = 0; e < size; e++) {
                    turned.append((e + m) % size);
                }
                Due.dueText("product " + n + " " + m, Due.told(cabinet, 7), size + ";c" + (size - 1) + ";u" + turned);
            }
        }
    }

    /** product: "values by a and b apart", of arity 2. */
    private static void productOfArityTwo() {
        AlgebraCabinet cabinet = new AlgebraCabinet();
        Due.read(cabinet, 0, "2;b0110");
        Due.read(cabinet, 1, "3;b012220111");
        StringBuilder cells = new StringBuilder();
        StringBuilder otherWay = new StringBuilder();
        int[] first = {0, 1, 1, 0};
        int[] second = {0, 1, 2, 2, 2, 0, 1, 1, 1};
        for (int a = 0; a < 6; a++) {
            for (int b = 0; b < 6; b++) {
                cells.append(first[a / 3 * 2 + b / 3] * 3 + second[a % 3 * 3 + b % 3]);
                otherWay.append(second[a / 2 * 3 + b / 2] * 2 + first[a % 2 * 2 + b % 2]);
            }
        }
        Due.due("product", cabinet.product(0, 1, 2), 6);
        Due.dueText("product", Due.told(cabinet, 2), "6;b" + cells);
        Due.due("product the other way", cabinet.product(1, 0, 1), 6);
        Due.dueText("product the other way", Due.told(cabinet, 1), "6;b" + otherWay);
    }

    /** "More than 300 are MANY": 300 are counted, and 301 are not. */
    private static void functionsUpTo300() {
        String[] texts = {"7;u6320000;u1431614;u4435331", "6;u333122;u353050;u455015"};
        int[] many = {300, 301};
        for (int i = 0; i < 2; i++) {
            Due.due("as many as that", compositions(texts[i]), many[i]);
            AlgebraCabinet cabinet = new AlgebraCabinet();
            Due.read(cabinet, 0, texts[i]);
            Due.due("how many", cabinet.function(0, NONE), i == 0 ? 300 : MANY);
            Due.isTrue("the first", i == 0 ? cabinet.function(0, 0) >= 0 : cabinet.function(0, 0) == MANY);
            int last = cabinet.function(0, 299);
            Due.isTrue("the last", i == 0 ? last > cabinet.function(0, 298) : last == MANY);
            Due.due("one more", cabinet.function(0, 300), i == 0 ? OUTSIDE : MANY);
            Due.due("k -2", cabinet.function(0, -2), i == 0 ? OUTSIDE : MANY);
        }
    }

    /** How many functions come of x by operations of arity 1. */
    private static int compositions(String text) {
        String[] operations = text.split(";u");
        Set<String> found = new HashSet<>();
        List<String> open = new ArrayList<>();
        open.add("0123456".substring(0, operations[1].length()));
        found.add(open.get(0));
        while (!open.isEmpty()) {
            String line = open.remove(open.size() - 1);
            for (int i = 1; i < operations.length; i++) {
                StringBuilder next = new StringBuilder();
                for (char value : line.toCharArray()) {
                    next.append(operations[i].charAt(value - '0'));
                }
                if (found.add(next.toString())) {
                    open.add(next.toString());
                }
            }
        }
        return found.size();
    }

    /** MANY has no say in the calls behind it. */
    private static void functionsBehindMany() {
        AlgebraCabinet cabinet = new AlgebraCabinet();
        Due.read(cabinet, 0, "6;u333122;u353050;u455015");
        Due.read(cabinet, 1, "3;u120");
        for (int round = 0; round < 3; round++) {
            Due.due("many", cabinet.function(0, NONE), MANY);
            Due.due("few", cabinet.function(1, NONE), 3);
            Due.due("the last", cabinet.function(1, 2), Due.line("201"));
        }
    }

    /** "and an operation's values of such ones", as first argument and as second: of tables of three elements. */
    private static void functionsOfArityTwo() {
        AlgebraCabinet cabinet = new AlgebraCabinet();
        for (int table = 0; table < 19683; table += 7) {
            if (table % 49 == 0) {
                cabinet = new AlgebraCabinet();
            }
            int[] cells = new int[9];
            StringBuilder text = new StringBuilder("3;b");
            int rest = table;
            for (int i = 0; i < 9; i++) {
                cells[i] = rest % 3;
                text.append(cells[i]);
                rest /= 3;
            }
            Due.read(cabinet, 0, text.toString());
            TreeSet<Integer> functions = functions(cells);
            Due.due("functions of " + text, cabinet.function(0, NONE), functions.size());
            Due.due("the first of " + text, cabinet.function(0, 0), functions.first());
            Due.due("the last of " + text, cabinet.function(0, functions.size() - 1), functions.last());
            Due.due("one more of " + text, cabinet.function(0, functions.size()), OUTSIDE);
        }
    }

    /** Their lines, told as numbers; a new one is sought until there is none. */
    private static TreeSet<Integer> functions(int[] cells) {
        TreeSet<Integer> found = new TreeSet<>();
        found.add(Due.line("012"));
        int before = 0;
        while (before < found.size()) {
            before = found.size();
            for (int f : found.toArray(new Integer[0])) {
                for (int g : found.toArray(new Integer[0])) {
                    int x = cells[f / 49 * 3 + g / 49];
                    int y = cells[f / 7 % 7 * 3 + g / 7 % 7];
                    int z = cells[f % 7 * 3 + g % 7];
                    found.add(x * 49 + y * 7 + z);
                }
            }
        }
        return found;
    }

    /** "x itself; what an operation of arity 0 gives, for every x; and an operation's values of such ones." */
    private static void functionsAtBothEnds() {
        for (int n = 1; n <= 7; n++) {
            AlgebraCabinet cabinet = new AlgebraCabinet();
            String own = "0123456".substring(0, n);
            cabinet.make(0, n, 0);
            Due.due("x alone", cabinet.function(0, NONE), 1);
            Due.due("x alone", cabinet.function(0, 0), Due.line(own));
            Due.due("one more", cabinet.function(0, 1), OUTSIDE);
            Due.read(cabinet, 1, n + ";c" + (n - 1));
            Due.due("with arity 0", cabinet.function(1, NONE), n == 1 ? 1 : 2);
            Due.due("x comes first", cabinet.function(1, 0), Due.line(own));
            Due.due("the last", cabinet.function(1, n == 1 ? 0 : 1), Due.line(Integer.toString(n - 1).repeat(n)));
            Due.due("one more", cabinet.function(1, n == 1 ? 1 : 2), OUTSIDE);
            Due.read(cabinet, 2, n + ";u" + "1234567".substring(0, n - 1) + "0");
            Due.due("turns", cabinet.function(2, NONE), n);
            Due.due("the first turn", cabinet.function(2, 0), Due.line(own));
        }
    }

    /** "The number of all algebras of these .., if it is above 60,000: MANY.": of all sizes and arities. */
    private static void modelsUpTo60000() {
        for (int size = 1; size <= 7; size++) {
            for (int arities : Due.allArities()) {
                double tables = Math.pow(size, Due.cells(size, arities));
                AlgebraCabinet cabinet = new AlgebraCabinet();
                Due.laws(cabinet, 0, "x=x");
                String name = "models " + size + " " + arities;
                Due.due(name, cabinet.models(size, arities, 0, false), tables > 60000 ? MANY : (int) Math.round(tables));
                Due.due(name + ", form 0", Math.min(cabinet.model(size, arities, 0, 0, 7), 1), tables > 60000 ? MANY : 1);
                Due.due(name + ", form 0", cabinet.about(7, 3), tables > 60000 ? EMPTY : 0);
            }
        }
    }

    /** model: form 0, the last, and "then OUTSIDE: no such form." */
    private static void modelAtBothEnds() {
        AlgebraCabinet cabinet = new AlgebraCabinet();
        Due.laws(cabinet, 3, "x=x");
        Object[][] rows = {{1, 0, 1, "1", "1"}, {7, 0, 1, "7", "7"}, {2, 3, 10, "2;b0000", "2;b1100"},
            {3, 2, 7, "3;u000", "3;u120"}, {6, 2, 130, "6;u000000", "6;u123450"},
            {7, 1111, 15, "7;c0;c0;c0;c0", "7;c0;c1;c2;c3"}, {1, 3333, 1, "1;b0;b0;b0;b0", ""}};
        for (Object[] row : rows) {
            int size = (Integer) row[0];
            int arities = (Integer) row[1];
            int forms = (Integer) row[2];
            Due.due("forms", cabinet.models(size, arities, 3, true), forms);
            Due.isTrue("the first", cabinet.model(size, arities, 3, 0, 0) >= 1);
            Due.dueText("the first", Due.told(cabinet, 0), (String) row[3]);
            if (forms > 1) {
                Due.isTrue("the last", cabinet.model(size, arities, 3, forms - 1, 7) >= 1);
                Due.dueText("the last", Due.told(cabinet, 7), (String) row[4]);
            }
            Due.due("one more", cabinet.model(size, arities, 3, forms, 7), OUTSIDE);
            Due.due("NONE", cabinet.model(size, arities, 3, NONE, 7), OUTSIDE);
        }
    }

    /** Where no algebra keeps the laws, no model and no form is there. */
    private static void modelOfNone() {
        AlgebraCabinet cabinet = new AlgebraCabinet();
        Due.laws(cabinet, 0, "x=y");
        for (int size = 1; size <= 7; size++) {
            int due = size == 1 ? 1 : 0;
            Due.due("models", cabinet.models(size, 1, 0, false), due);
            Due.due("forms", cabinet.models(size, 1, 0, true), due);
            Due.due("model", cabinet.model(size, 1, 0, 0, 0), due == 1 ? 1 : OUTSIDE);
        }
        Due.due("changes", cabinet.count(2), 1);
    }

    /** count: "What 0: bytes of the tape, 1: of OUT, 2: changes that are kept, 3: drawers .., 4: lists ..", at their most. */
    private static void countsAtTheirMost() {
        AlgebraCabinet cabinet = new AlgebraCabinet();
        for (int i = 0; i < 40; i++) {
            cabinet.make(i % 8, 7, 3333);
        }
        for (int list = 0; list < 4; list++) {
            Due.laws(cabinet, list, "x=x");
        }
        cabinet.tell(7);
        for (int i = 0; i < 21; i++) {
            cabinet.feed(0, 0, 0, 0, 0);
        }
        int[] most = {400, 205, 16, 8, 4};
        for (int what = 0; what < 5; what++) {
            Due.due("count " + what, cabinet.count(what), most[what]);
        }
        Due.due("count 5", cabinet.count(5), OUTSIDE);
        Due.due("count -1", cabinet.count(-1), OUTSIDE);
        cabinet.trim(0);
        cabinet.drop(7);
        cabinet.drop(0);
        Due.due("bytes", cabinet.count(0), 0);
        Due.due("drawers", cabinet.count(3), 6);
        Due.due("changes", cabinet.count(2), 16);
        for (int i = 0; i < 16; i++) {
            cabinet.undo();
        }
        Due.due("changes behind undo", cabinet.count(2), 0);
        Due.due("drawers behind undo", cabinet.count(3), 8);
    }
}
