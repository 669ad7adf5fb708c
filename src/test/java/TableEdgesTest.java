import java.util.Random;

/** The sentences of promises 1 to 16 that name an edge: the last input that is allowed, the first that is not. */
public final class TableEdgesTest {
    private static final int NONE = AlgebraCabinet.NONE, EMPTY = AlgebraCabinet.EMPTY, OUTSIDE = AlgebraCabinet.OUTSIDE;
    private static final int INDEX = AlgebraCabinet.INDEX, MANY = AlgebraCabinet.MANY;
    private static final int LEAST = Integer.MIN_VALUE, GREATEST = Integer.MAX_VALUE;
    /** Twenty bytes: one feed. */
    private static final String TWENTY = "3;b012120201;u021;c0";

    public static void main(String[] args) {
        newObjectsAreApart();
        feedTwentyBytes();
        feedUpTo400();
        trimKeepsTheFirst();
        feedBehindTrim();
        outAtItsEnds();
        makeAllShapes();
        setEachCell();
        notLookedAt();
        stampSoMany();
        aboutOtherThanZero();
        dropAtBothEnds();
        tellLongestAndShortest();
        readEveryByte();
        readDigits();
        readFirstFromTheLeft();
        readFifthOperation();
        readLongest();
        undoOfNone();
        traitsOfAllSmall();
        traitsAtTheLastElements();
        powersOfAllLengths();
        centreOfAllKinds();
        Due.finish();
    }

    /** "All drawers and lists hold nothing; an empty tape.", also where another object holds much. */
    private static void newObjectsAreApart() {
        AlgebraCabinet full = Scene.made();
        AlgebraCabinet cabinet = new AlgebraCabinet();
        for (int what = 0; what <= 4; what++) {
            Due.due("count " + what, cabinet.count(what), 0);
            Due.isTrue("the other one is not empty", full.count(what) > 0);
        }
        for (int drawer = 0; drawer < 8; drawer++) {
            Due.due("tell of a new drawer", cabinet.tell(drawer), EMPTY);
        }
        cabinet.make(1, 5, 0);
        for (int list = 0; list < 4; list++) {
            Due.due("holds of a new list", cabinet.holds(1, list), EMPTY);
        }
        Due.due("fault of a new object", cabinet.fault(), 0);
        Due.due("read of a new tape", cabinet.read(0), -100);
        Due.due("the other one has its own", full.about(1, 0), 2);
    }

    /** feed: "Twenty bytes come behind the tape, the highest of each number first". */
    private static void feedTwentyBytes() {
        AlgebraCabinet cabinet = new AlgebraCabinet();
        Due.due("feed", cabinet.feed(0x333B6230, 0x31323132, 0x30323031, 0x3B753032, 0x313B6330), 20);
        Due.due("read", cabinet.read(0), 3);
        Due.dueText("all twenty, in order", Due.told(cabinet, 0), TWENTY);
        // bytes from 128 on, and 255: each is one byte, and none is a sign
        int[] high = {0xFF000000, 0x80000000, 0xB1000000, LEAST, -1};
        for (int number : high) {
            cabinet.feed(number, 0x323B7531, 0x30000000, 0, 0);
            Due.due("a high byte", cabinet.read(0), -100);
        }
        cabinet.feed(0x323BFFFF, -1, -1, -1, -1);
        Due.due("high bytes behind", cabinet.read(0), -102);
    }

    /** feed: "MANY: it would have more than 400": with 380 it has 400 then. */
    private static void feedUpTo400() {
        for (int length = 361; length <= 400; length++) {
            AlgebraCabinet cabinet = new AlgebraCabinet();
            for (int i = 0; i < 20; i++) {
                Due.due("feed", cabinet.feed(0, 0, 0, 0, 0), 20 * (i + 1));
            }
            cabinet.trim(length);
            boolean room = length <= 380;
            Due.due("feed behind " + length, cabinet.feed(0, 0, 0, 0, 0), room ? length + 20 : MANY);
            Due.due("bytes", cabinet.count(0), room ? length + 20 : length);
        }
    }

    /** trim: "The tape keeps its first n bytes: n.", from 0 to all. */
    private static void trimKeepsTheFirst() {
        for (int n = 0; n <= 20; n++) {
            AlgebraCabinet cabinet = new AlgebraCabinet();
            Due.type(cabinet, TWENTY);
            Due.due("trim", cabinet.trim(n), n);
            Due.due("bytes", cabinet.count(0), n);
            Due.due("trim once more", cabinet.trim(n), n);
            Due.due("trim to more", cabinet.trim(n + 1), OUTSIDE);
            boolean whole = n == 1 || n == 12 || n == 17 || n == 20;
            Due.due("read of " + n, cabinet.read(0), whole ? 3 : -100 - n);
            Due.dueText("read of " + n, Due.told(cabinet, 0), whole ? TWENTY.substring(0, n) : "");
        }
    }

    /** What comes behind a trimmed tape comes behind its last byte. */
    private static void feedBehindTrim() {
        for (int n = 0; n <= 20; n++) {
            AlgebraCabinet cabinet = new AlgebraCabinet();
            Due.type(cabinet, TWENTY);
            cabinet.trim(n);
            Due.type(cabinet, TWENTY.substring(n));
            Due.due("read", cabinet.read(0), 3);
            Due.dueText("read", Due.told(cabinet, 0), TWENTY);
        }
    }

    /** out: "Byte i of OUT. NONE: there is none." */
    private static void outAtItsEnds() {
        AlgebraCabinet cabinet = new AlgebraCabinet();
        Due.due("out of none", cabinet.out(0), NONE);
        Due.read(cabinet, 0, "2;u10");
        Due.read(cabinet, 1, "7");
        cabinet.tell(0);
        int[] bytes = {'2', ';', 'u', '1', '0', NONE, NONE};
        for (int i = 0; i < bytes.length; i++) {
            Due.due("out " + i, cabinet.out(i), bytes[i]);
        }
        Due.due("out -1", cabinet.out(-1), NONE);
        Due.due("out least", cabinet.out(LEAST), NONE);
        Due.due("out greatest", cabinet.out(GREATEST), NONE);
        cabinet.tell(1);
        Due.due("out 0 of a shorter one", cabinet.out(0), '7');
        Due.due("out 1 of a shorter one", cabinet.out(1), NONE);
        Due.due("out 4 of a shorter one", cabinet.out(4), NONE);
    }

    /** make: "A drawer has a new algebra of a size and arities, 0 in all cells: how many cells." */
    private static void makeAllShapes() {
        for (int size = 1; size <= 7; size++) {
            for (int arities : Due.allArities()) {
                AlgebraCabinet cabinet = new AlgebraCabinet();
                Due.read(cabinet, 0, "7" + (";b" + "6".repeat(49)).repeat(4));
                int cells = Due.cells(size, arities);
                Due.due("make " + size + " " + arities, cabinet.make(0, size, arities), cells);
                Due.due("cells", cabinet.about(0, 2), cells);
                Due.due("cells that are not 0", cabinet.about(0, 3), 0);
            }
        }
    }

    /** set: "The cell of an operation of a and b becomes v: what stood there.", and no other cell does. */
    private static void setEachCell() {
        for (int spot = 0; spot < 57; spot++) {
            AlgebraCabinet cabinet = new AlgebraCabinet();
            String before = "7;b" + "1".repeat(49) + ";c2;u" + "3".repeat(7);
            Due.read(cabinet, 0, before);
            int operation = spot < 49 ? 0 : spot < 50 ? 1 : 2;
            int a = operation == 0 ? spot / 7 : spot - 50;
            int stood = operation == 0 ? 1 : operation + 1;
            Due.due("set", cabinet.set(0, operation, a, spot % 7, 6), stood);
            Due.due("cell", cabinet.cell(0, operation, operation == 0 ? 2 : operation - 1, a, spot % 7), 6);
            int place = operation == 0 ? 3 + spot : operation == 1 ? 54 : 57 + a;
            String after = before.substring(0, place) + "6" + before.substring(place + 1);
            Due.dueText("set of cell " + spot, Due.told(cabinet, 0), after);
        }
    }

    /** set, cell: "(of arity 1: of a; of arity 0: neither is looked at)". */
    private static void notLookedAt() {
        for (int wild : new int[] {-1, 3, 7, LEAST, GREATEST}) {
            AlgebraCabinet cabinet = new AlgebraCabinet();
            cabinet.make(0, 3, 321);
            Due.due("set of arity 0", cabinet.set(0, 0, wild, wild, 2), 0);
            Due.due("set of arity 1", cabinet.set(0, 1, 2, wild, 1), 0);
            Due.due("cell of arity 0", cabinet.cell(0, 0, 0, wild, wild), 2);
            Due.due("cell of arity 1", cabinet.cell(0, 1, 1, 2, wild), 1);
            Due.dueText("set", Due.told(cabinet, 0), "3;c2;u001;b000000000");
            Due.due("set of arity 1, a", cabinet.set(0, 1, wild, 0, 1), OUTSIDE);
            Due.due("cell of arity 1, a", cabinet.cell(0, 1, 1, wild, 0), INDEX);
            Due.due("cell of arity 2, b", cabinet.cell(0, 2, 2, 0, wild), INDEX);
        }
    }

    /** stamp: "The first cells, so many, of a row .. come to the same places of another row (or the same): many." */
    private static void stampSoMany() {
        String rows = "0123456" + "1234560" + "2345601" + "3456012" + "4560123" + "5601234" + "6012345";
        for (int many = 0; many <= 7; many++) {
            for (int[] pair : new int[][] {{0, 6}, {6, 0}, {3, 4}, {5, 5}, {0, 0}, {6, 6}}) {
                AlgebraCabinet cabinet = new AlgebraCabinet();
                Due.read(cabinet, 0, "7;b" + rows + ";b" + rows);
                Due.due("stamp", cabinet.stamp(0, 1, pair[0], pair[1], many), many);
                int from = 7 * pair[0];
                int to = 7 * pair[1];
                String after = rows.substring(0, to) + rows.substring(from, from + many) + rows.substring(to + many);
                Due.dueText("stamp of " + many, Due.told(cabinet, 0), "7;b" + rows + ";b" + after);
                Due.due("stamp is a change", cabinet.count(2), 2);
            }
        }
        AlgebraCabinet cabinet = new AlgebraCabinet();
        cabinet.make(0, 1, 3);
        Due.due("stamp of one cell", cabinet.stamp(0, 0, 0, 0, 1), 1);
        Due.due("stamp of two cells", cabinet.stamp(0, 0, 0, 0, 2), INDEX);
    }

    /** about: "what .. 3 how many of these have another element than 0": none, one at each end, all. */
    private static void aboutOtherThanZero() {
        AlgebraCabinet cabinet = new AlgebraCabinet();
        cabinet.make(0, 7, 3333);
        Due.due("none", cabinet.about(0, 3), 0);
        cabinet.set(0, 0, 0, 0, 1);
        Due.due("the first", cabinet.about(0, 3), 1);
        cabinet.set(0, 3, 6, 6, 6);
        Due.due("the last too", cabinet.about(0, 3), 2);
        cabinet.set(0, 3, 6, 6, 0);
        Due.due("the first again", cabinet.about(0, 3), 1);
        Due.read(cabinet, 0, "7" + (";b" + "5".repeat(49)).repeat(4));
        Due.due("all", cabinet.about(0, 3), 196);
        Due.due("cells", cabinet.about(0, 2), 196);
        Due.due("arities", cabinet.about(0, 1), 3333);
        Due.due("size", cabinet.about(0, 0), 7);
        cabinet.make(0, 1, 0);
        int[] least = {1, 0, 0, 0};
        for (int what = 0; what < 4; what++) {
            Due.due("the least algebra", cabinet.about(0, what), least[what]);
        }
    }

    /** drop: "A drawer holds nothing then: 1. EMPTY." */
    private static void dropAtBothEnds() {
        for (int drawer : new int[] {0, 7}) {
            AlgebraCabinet cabinet = new AlgebraCabinet();
            Due.due("drop of nothing", cabinet.drop(drawer), EMPTY);
            cabinet.make(drawer, 1, 0);
            Due.due("drop", cabinet.drop(drawer), 1);
            Due.due("it holds nothing", cabinet.tell(drawer), EMPTY);
            Due.due("drawers", cabinet.count(3), 0);
            Due.due("drop again", cabinet.drop(drawer), EMPTY);
            Due.due("changes", cabinet.count(2), 2);
            Due.due("make then", cabinet.make(drawer, 2, 2), 2);
        }
    }

    /** tell: "its size as a digit; then for each operation ; and c, u or b .., and its cells as digits: how many bytes." */
    private static void tellLongestAndShortest() {
        AlgebraCabinet cabinet = new AlgebraCabinet();
        for (int size = 1; size <= 7; size++) {
            cabinet.make(0, size, 0);
            Due.due("tell without operations", cabinet.tell(0), 1);
            Due.due("its size", cabinet.out(0), '0' + size);
        }
        Random random = new Random(11);
        StringBuilder longest = new StringBuilder("7");
        for (int i = 0; i < 4; i++) {
            longest.append(";b");
            for (int cell = 0; cell < 49; cell++) {
                longest.append(random.nextInt(7));
            }
        }
        Due.due("read of the longest", Due.read(cabinet, 1, longest.toString()), 7);
        Due.due("tell of the longest", cabinet.tell(1), 205);
        Due.dueText("tell of the longest", Due.told(cabinet, 1), longest.toString());
    }

    /** read: "1 a byte that can not stand there (the size is 1 .. 7), or the end, if more must come", for every byte. */
    private static void readEveryByte() {
        follow("", "", "1234567", false);
        follow("3", ";", "", true);
        follow("3;", "cub", "", false);
        follow("3;c", "", "012", false);
        follow("3;c0", ";", "", true);
        follow("3;u01", "", "012", false);
        follow("3;u0", "012", "", false);
        follow("3;u012", ";", "", true);
        follow("2;b011", "", "01", false);
        follow("2;b0110;", "cub", "", false);
        follow("1;c", "", "0", false);
        follow("7;c", "", "0123456", false);
        follow("2;c0;c0;c0", ";", "", true);
        follow("2;c0;c0;c0;", "cub", "", false);
        follow("2;c0;c0;c0;c0", "", "", true);
    }

    /** Behind the bytes of more the text must go on, behind those of done it may end; whole: it may end ahead of them. */
    private static void follow(String ahead, String more, String done, boolean whole) {
        AlgebraCabinet cabinet = new AlgebraCabinet();
        int size = ahead.isEmpty() ? 0 : ahead.charAt(0) - '0';
        Due.due("read " + ahead, Due.read(cabinet, 0, ahead), whole ? size : -100 - ahead.length());
        Due.due("fault of " + ahead, cabinet.fault(), whole ? 0 : 1);
        boolean inCell = !whole && ahead.length() > 2 && !ahead.endsWith(";");
        boolean full = ahead.chars().filter(b -> b == ';').count() == 4 && whole;
        for (char b = 0; b < 256; b++) {
            cabinet = new AlgebraCabinet();
            int answer = Due.read(cabinet, 7, ahead + b);
            boolean good = done.indexOf(b) >= 0;
            boolean goesOn = more.indexOf(b) >= 0;
            int place = ahead.length() + (goesOn ? 1 : 0);
            int wrongDigit = inCell && b >= '0' && b <= '9' && !goesOn ? 2 : 1;
            Due.due("read " + ahead + " and byte " + (int) b, Math.min(answer, 1), good ? 1 : -100 - place);
            Due.due("fault of " + ahead + " and byte " + (int) b, cabinet.fault(), good ? 0 : full && b == ';' ? 3 : wrongDigit);
            Due.due("drawers", cabinet.count(3), good ? 1 : 0);
        }
    }

    /** read: "2 a digit in a cell that is not below the size": in each cell, for each size. */
    private static void readDigits() {
        for (int size = 1; size <= 7; size++) {
            String cells = "0".repeat(size * size);
            for (int cell = 0; cell < size * size; cell++) {
                String ahead = size + ";b" + cells.substring(0, cell);
                String behind = cells.substring(cell + 1);
                AlgebraCabinet cabinet = new AlgebraCabinet();
                Due.due("the greatest element", Due.read(cabinet, 0, ahead + (size - 1) + behind), size);
                Due.due("the greatest element", cabinet.cell(0, 0, 2, cell / size, cell % size), size - 1);
                Due.due("one more", Due.read(cabinet, 0, ahead + size + behind), -103 - cell);
                Due.due("one more", cabinet.fault(), 2);
                Due.due("9", Due.read(cabinet, 0, ahead + 9 + behind), -103 - cell);
                Due.due("9", cabinet.fault(), 2);
                Due.due("none", Due.read(cabinet, 0, ahead + ":" + behind), -103 - cell);
                Due.due("none", cabinet.fault(), 1);
            }
        }
    }

    /** read: "the place of its FAULT, the first from the left". */
    private static void readFirstFromTheLeft() {
        Object[][] texts = {{"3;c3;x", 3, 2}, {"3;x3;c3", 2, 1}, {"9;c9", 0, 1}, {"3;c3;c3;c3;c3;c3", 3, 2},
            {"3;c0;c0;c0;c0;c3", 13, 3}, {"3;c0;c0;c0;c3;c0", 12, 2}, {"3;u03", 4, 2}, {"3;u0x3", 4, 1}, {"3;u0", 4, 1},
            {"3;b00000000", 11, 1}, {"3;b0000000000", 12, 1}, {"3;u000u", 6, 1}, {"3;u000;", 7, 1}, {"3;u000;;", 7, 1}};
        for (Object[] text : texts) {
            AlgebraCabinet cabinet = new AlgebraCabinet();
            Due.due("read " + text[0], Due.read(cabinet, 0, (String) text[0]), -100 - (Integer) text[1]);
            Due.due("fault of " + text[0], cabinet.fault(), (Integer) text[2]);
        }
    }

    /** read: "3 the ; of a fifth operation", whatever comes behind it. */
    private static void readFifthOperation() {
        String[] fours = {"1;c0;c0;c0;c0", "2;u10;u01;u11;u00", "2;b0110;c0;u10;b0001", "7;c6;c5;c4;c3"};
        for (String four : fours) {
            AlgebraCabinet cabinet = new AlgebraCabinet();
            Due.due("four operations", Due.read(cabinet, 0, four), four.charAt(0) - '0');
            Due.dueText("four operations", Due.told(cabinet, 0), four);
            for (String behind : new String[] {";", ";c0", ";x", ";;", ";c9"}) {
                Due.due("a fifth: " + behind, Due.read(cabinet, 0, four + behind), -100 - four.length());
                Due.due("a fifth: " + behind, cabinet.fault(), 3);
            }
            for (String behind : new String[] {"c", "0", " ", "\n", "x;"}) {
                Due.due("no fifth: " + behind, Due.read(cabinet, 0, four + behind), -100 - four.length());
                Due.due("no fifth: " + behind, cabinet.fault(), 1);
            }
        }
    }

    /** The longest text has 205 bytes; a full tape goes on behind it. */
    private static void readLongest() {
        String longest = "7" + (";b" + "0123456".repeat(7)).repeat(4);
        AlgebraCabinet cabinet = new AlgebraCabinet();
        Due.due("the longest", Due.read(cabinet, 0, longest), 7);
        Due.due("its last byte is missing", Due.read(cabinet, 0, longest.substring(0, 204)), -304);
        Due.due("its last byte is missing", cabinet.fault(), 1);
        Due.due("one byte more", Due.read(cabinet, 0, longest + "0"), -305);
        Due.due("one byte more", cabinet.fault(), 1);
        Due.due("a full tape", Due.read(cabinet, 0, longest + ";".repeat(195)), -305);
        Due.due("a full tape", cabinet.fault(), 3);
        Due.due("a full tape of digits", Due.read(cabinet, 0, "7".repeat(400)), -101);
        Due.due("changes", cabinet.count(2), 1);
    }

    /** undo: "NONE: none is kept." */
    private static void undoOfNone() {
        AlgebraCabinet cabinet = new AlgebraCabinet();
        Due.due("undo", cabinet.undo(), NONE);
        cabinet.make(7, 3, 3);
        Due.due("undo", cabinet.undo(), 7);
        Due.due("undo", cabinet.undo(), NONE);
        Due.due("changes", cabinet.count(2), 0);
        Due.due("drawer 7", cabinet.about(7, 0), EMPTY);
        cabinet.make(0, 3, 3);
        Due.due("undo goes on", cabinet.undo(), 0);
    }

    /** traits: of all tables of one, two and three elements. */
    private static void traitsOfAllSmall() {
        for (int n = 1; n <= 3; n++) {
            int tables = n == 1 ? 1 : n == 2 ? 16 : 19683;
            AlgebraCabinet cabinet = new AlgebraCabinet();
            for (int table = 0; table < tables; table++) {
                int[] cells = new int[n * n];
                int rest = table;
                for (int i = 0; i < n * n; i++) {
                    cells[i] = rest % n;
                    rest /= n;
                }
                if (table % 50 == 0) {
                    cabinet = new AlgebraCabinet();
                }
                Due.read(cabinet, 0, text(n, cells));
                Due.due("traits of " + text(n, cells), cabinet.traits(0, 0), traits(n, cells));
            }
        }
    }

    /** Tables of seven elements that have a trait, and lose it by one cell, each in turn. */
    private static void traitsAtTheLastElements() {
        int[][] tables = new int[4][49];
        for (int place = 0; place < 49; place++) {
            int a = place / 7;
            int b = place % 7;
            tables[0][place] = (a + b) % 7;
            tables[1][place] = Math.min(a, b);
            tables[2][place] = (2 * a + 6 * b) % 7;
            tables[3][place] = a;
        }
        int[] whole = {1 + 2 + 4 + 8, 1 + 2 + 4 + 16 + 32, 8 + 16 + 32, 1 + 16 + 32};
        for (int i = 0; i < tables.length; i++) {
            for (int place = 0; place < 49; place++) {
                AlgebraCabinet cabinet = new AlgebraCabinet();
                Due.read(cabinet, 0, text(7, tables[i]));
                Due.due("traits", cabinet.traits(0, 0), whole[i]);
                int[] spoilt = tables[i].clone();
                spoilt[place] = (spoilt[place] + 1) % 7;
                cabinet.set(0, 0, place / 7, place % 7, spoilt[place]);
                Due.due("traits without cell " + place, cabinet.traits(0, 0), traits(7, spoilt));
            }
        }
    }

    private static String text(int n, int[] cells) {
        StringBuilder text = new StringBuilder().append(n).append(";b");
        for (int cell : cells) {
            text.append(cell);
        }
        return text.toString();
    }

    private static int traits(int n, int[] t) {
        boolean associative = true;
        boolean commutative = true;
        boolean distributive = true;
        boolean idempotent = true;
        boolean latin = true;
        boolean neutral = false;
        for (int a = 0; a < n; a++) {
            boolean neutralA = true;
            for (int b = 0; b < n; b++) {
                for (int c = 0; c < n; c++) {
                    associative &= t[t[a * n + b] * n + c] == t[a * n + t[b * n + c]];
                    distributive &= t[a * n + t[b * n + c]] == t[t[a * n + b] * n + t[a * n + c]];
                    latin &= b == c || t[a * n + b] != t[a * n + c] && t[b * n + a] != t[c * n + a];
                }
                commutative &= t[a * n + b] == t[b * n + a];
                neutralA &= t[a * n + b] == b && t[b * n + a] == b;
            }
            idempotent &= t[a * n + a] == a;
            neutral |= neutralA;
        }
        return (associative ? 1 : 0) + (commutative ? 2 : 0) + (neutral ? 4 : 0) + (latin ? 8 : 0) + (idempotent ? 16 : 0)
            + (distributive ? 32 : 0);
    }

    /** powers: "10 times how many come ahead of the first one that comes again, and how many there are from that one on". */
    private static void powersOfAllLengths() {
        for (int length = 1; length <= 7; length++) {
            for (int ahead = 0; ahead < length; ahead++) {
                for (int n = length; n <= 7; n++) {
                    for (boolean mirrored : new boolean[] {false, true}) {
                        int[] cells = new int[n * n];
                        for (int e = 0; e < length; e++) {
                            int next = e + 1 < length ? e + 1 : ahead;
                            int first = mirrored ? n - 1 : 0;
                            cells[Math.abs(first - e) * n + first] = Math.abs(first - next);
                        }
                        AlgebraCabinet cabinet = new AlgebraCabinet();
                        Due.read(cabinet, 0, text(n, cells));
                        int powers = 10 * ahead + length - ahead;
                        Due.due("powers of " + n, cabinet.powers(0, 0, mirrored ? n - 1 : 0), powers);
                    }
                }
            }
        }
    }

    /** centre: none, each set of elements that can be one, all. One alone can not be outside it. */
    private static void centreOfAllKinds() {
        for (int n = 1; n <= 7; n++) {
            for (int bits = 0; bits < 1 << n; bits++) {
                if (n - Integer.bitCount(bits) == 1) {
                    continue;
                }
                int[] cells = new int[n * n];
                for (int place = 0; place < n * n; place++) {
                    boolean outside = (bits >> place / n & 1) == 0 && (bits >> place % n & 1) == 0;
                    cells[place] = outside ? place / n : (place / n + place % n) % n;
                }
                AlgebraCabinet cabinet = new AlgebraCabinet();
                Due.read(cabinet, 0, text(n, cells));
                Due.due("centre", cabinet.centre(0, 0), bits);
            }
        }
    }
}
