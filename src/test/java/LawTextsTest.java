/** The sentences of the document's part "LAWS" at their edges: lists, signs, faults, what fits, what keeps a law. */
public final class LawTextsTest {
    private static final int NONE = AlgebraCabinet.NONE, EMPTY = AlgebraCabinet.EMPTY, UNFIT = AlgebraCabinet.UNFIT;
    private static final String TERMS = "xyzabcd";

    public static void main(String[] args) {
        listsAtFirst();
        oneToSixLaws();
        signsThatGoOn();
        blanksBetween();
        blanksCountInPlaces();
        theEnd();
        withinEight();
        withinEightAsSecond();
        termsWithinTermsCount();
        mostTermsAreTried();
        listsAreReadAnew();
        leastPlace();
        threeAheadOfFour();
        otherNumberOfArguments();
        fits();
        fitsWhereverLettersStand();
        variablesThatStandInTheLaw();
        orderOfAssignments();
        keeps();
        Due.finish();
    }

    private static void dueFault(String text, int place, int fault) {
        AlgebraCabinet cabinet = new AlgebraCabinet();
        Due.due("laws " + text, Due.laws(cabinet, 0, text), -100 - place);
        Due.due("fault of " + text, cabinet.fault(), fault);
        Due.due("lists behind " + text, cabinet.count(4), 0);
    }

    private static void dueLaws(String text, int laws) {
        AlgebraCabinet cabinet = new AlgebraCabinet();
        Due.due("laws " + text, Due.laws(cabinet, 0, text), laws);
        Due.due("fault of " + text, cabinet.fault(), 0);
        Due.due("lists behind " + text, cabinet.count(4), 1);
    }

    /** "LISTS 0 .. 3 hold one to six LAWS each, or nothing (at first)." */
    private static void listsAtFirst() {
        AlgebraCabinet cabinet = new AlgebraCabinet();
        cabinet.make(0, 2, 0);
        for (int list = 0; list < 4; list++) {
            Due.due("nothing at first", cabinet.holds(0, list), EMPTY);
        }
        for (int list = 0; list < 4; list++) {
            Due.due("lists that hold", cabinet.count(4), list);
            Due.due("laws", Due.laws(cabinet, list, "x=x;".repeat(list) + "x=y"), list + 1);
        }
        Due.due("four at once", cabinet.count(4), 4);
        for (int list = 0; list < 4; list++) {
            Due.due("each has its own", cabinet.holds(0, list), list);
        }
        Due.due("list 4", Due.laws(cabinet, 4, "x=x"), AlgebraCabinet.OUTSIDE);
        Due.due("list -1", Due.laws(cabinet, -1, "x=x"), AlgebraCabinet.OUTSIDE);
    }

    /** No law is a fault, one to six are a list, and "4 the seventh law". */
    private static void oneToSixLaws() {
        dueFault("", 0, 1);
        for (int laws = 1; laws <= 9; laws++) {
            String plain = "x=x;".repeat(laws - 1) + "x=y";
            String withConditions = "x=y&y=z>x=z;".repeat(laws - 1) + "x=y>y=x";
            if (laws <= 6) {
                dueLaws(plain, laws);
                dueLaws(withConditions, laws);
            } else {
                dueFault(plain, 24, 4);
                dueFault(withConditions, 72, 4);
            }
        }
        dueFault("x=x;".repeat(6), 24, 1);
        dueFault("x=x;".repeat(6) + " \n", 26, 1);
        dueFault("x=x;".repeat(6) + " \nx", 26, 4);
        dueFault("x=x;".repeat(6) + ";", 24, 1);
        dueFault("x=x;".repeat(6) + "=", 24, 1);
        dueFault("x=x;".repeat(6) + "a(w)=x", 24, 4);
    }

    /** "1 a byte that is no sign, or a sign with which no text goes on", for every byte behind every kind of beginning. */
    private static void signsThatGoOn() {
        follow("", TERMS, "", false);
        follow("x", "=", "", false);
        follow("a", "=(", "", false);
        follow("a(", TERMS, "", false);
        follow("a(x", ",)", "", false);
        follow("a(b", ",)(", "", false);
        follow("a(b(x)", ",)", "", false);
        follow("a(x,", TERMS, "", false);
        follow("a(x,y", ")", "", false);
        follow("a(x,b", ")(", "", false);
        follow("a(x)", "=", "", false);
        follow("a(x,y)", "=", "", false);
        follow("x=", "", TERMS, false);
        follow("x=x", "&>;", "", true);
        follow("x=a", "&>;(", "", true);
        follow("x=a(x)", "&>;", "", true);
        follow("x=x&", TERMS, "", false);
        follow("x=x&y", "=", "", false);
        follow("x=x&y=", TERMS, "", false);
        follow("x=x&y=y", "&>", "", false);
        follow("x=x&y=a", "&>(", "", false);
        follow("x=x>", TERMS, "", false);
        follow("x=x&y=y>", TERMS, "", false);
        follow("x=x>y=", "", TERMS, false);
        follow("x=x>y=y", ";", "", true);
        follow("x=x&y=y>z=z", ";", "", true);
        follow("x=x;", TERMS, "", false);
        follow("x=x;y=", "", TERMS, false);
        follow("x=x;y=y", "&>;", "", true);
    }

    /** Behind the signs of more the text must go on, behind those of done it may end; whole: it may end ahead of them. */
    private static void follow(String ahead, String more, String done, boolean whole) {
        for (char b = 0; b < 256; b++) {
            AlgebraCabinet cabinet = new AlgebraCabinet();
            int answer = Due.laws(cabinet, 0, ahead + b);
            boolean blank = b == 32 || b == 10;
            boolean good = blank ? whole : done.indexOf(b) >= 0;
            int place = ahead.length() + (blank || more.indexOf(b) >= 0 ? 1 : 0);
            Due.due("laws " + ahead + " and byte " + (int) b, Math.min(answer, 1), good ? 1 : -100 - place);
            Due.due("fault of " + ahead + " and byte " + (int) b, cabinet.fault(), good ? 0 : 1);
            Due.due("lists", cabinet.count(4), good ? 1 : 0);
        }
    }

    /** "with bytes 32 and 10 between them as one likes": at each place of a text that has every sign. */
    private static void blanksBetween() {
        String text = "a(x,b(y))=z&x=y>c=d;a(y,x)=b(z)";
        int[] fails = trial(text);
        Due.isTrue("laws that fail", fails[1] > 0 && fails[2] > 0);
        for (String blanks : new String[] {" ", "\n", " \n\n  "}) {
            for (int at = 0; at <= text.length(); at++) {
                String wider = text.substring(0, at) + blanks + text.substring(at);
                int[] got = trial(wider);
                for (int i = 0; i < 3; i++) {
                    Due.due("with blanks at " + at, got[i], fails[i]);
                }
            }
        }
        int[] widest = trial(String.join("\n ", text.split("")));
        for (int i = 0; i < 3; i++) {
            Due.due("with blanks at each place", widest[i], fails[i]);
        }
    }

    private static int[] trial(String text) {
        AlgebraCabinet cabinet = new AlgebraCabinet();
        Due.read(cabinet, 0, "3;b012120201;u021;c0;c1");
        int laws = Due.laws(cabinet, 1, text);
        return new int[] {laws, cabinet.fails(0, 1, 0), cabinet.fails(0, 1, 1)};
    }

    private static void blanksCountInPlaces() {
        dueFault(" \n w=x", 3, 1);
        dueFault("x =\n w", 5, 1);
        dueFault("a ( x , y , z ) = x", 10, 1);
        dueFault(" a = a ( x )", 5, 2);
        dueFault("\na ( x ) = b ; b ( x ) = a", 15, 2);
        dueFault("x=x;".repeat(6) + "  x", 26, 4);
        dueFault("a( ".repeat(8) + "x", 24, 3);
    }

    /** "the end, if more must come (its place is the number of bytes)". */
    private static void theEnd() {
        String text = "a(x,b(y))=z&x=y>c=d;a(y,x)=b(z)";
        for (int length = 0; length <= text.length(); length++) {
            String ahead = text.substring(0, length);
            for (String blanks : new String[] {"", " ", "\n \n"}) {
                switch (length) {
                    case 11, 19 -> dueLaws(ahead + blanks, 1);
                    case 31 -> dueLaws(ahead + blanks, 2);
                    // the last letter stands there without the arguments that it has where it stands first
                    case 28 -> dueFault(ahead + blanks, 27, 2);
                    default -> dueFault(ahead + blanks, length + blanks.length(), 1);
                }
            }
        }
    }

    private static String nested(int letters) {
        return "a(".repeat(letters) + "x" + ")".repeat(letters);
    }

    /** "3 a term that lies within eight others (at its first sign)": within seven it may, and a letter too. */
    private static void withinEight() {
        for (int letters = 0; letters <= 20; letters++) {
            if (letters <= 7) {
                dueLaws(nested(letters) + "=x", 1);
                dueLaws("x=" + nested(letters), 1);
                dueLaws("x=x&" + nested(letters) + "=x>x=" + nested(letters), 1);
                dueLaws(nested(letters).replace("x", "b") + "=x", 1);
            } else {
                dueFault(nested(letters) + "=x", 16, 3);
                dueFault("x=" + nested(letters), 18, 3);
                dueFault("x=x;y=" + nested(letters), 22, 3);
                dueFault(nested(letters).replace("x", "b") + "=x", 16, 3);
            }
        }
        dueFault("a(".repeat(8), 16, 1);
        dueFault("a(".repeat(8) + " ", 17, 1);
        dueFault("a(".repeat(8) + ")", 16, 1);
        dueFault("a(".repeat(8) + "w", 16, 1);
        dueFault("a(".repeat(8) + "d", 16, 3);
        dueFault("a(".repeat(8) + "\nz", 17, 3);
    }

    private static void withinEightAsSecond() {
        String seven = "a(x,".repeat(7) + "y" + ")".repeat(7);
        dueLaws(seven + "=x", 1);
        dueFault("a(" + seven + ",x)=x", 28, 3);
        dueFault("a(x," + seven + ")=x", 30, 3);
        dueFault("a(x," + nested(7).replace("a", "b") + ")=x", 18, 3);
        dueLaws("a(" + nested(6).replace("a", "b") + "," + nested(6).replace("a", "b") + ")=x", 1);
        // seven closed ones ahead of it are not those that a term lies within
        dueLaws("a(" + nested(6).replace("a", "b") + ",x)=" + nested(7).replace("a", "b"), 1);
    }

    /** "4 .. the 81st term (terms within terms count; at its first sign)". */
    private static void termsWithinTermsCount() {
        String eight = "a(a(a(x)))=a(a(a(y)))";
        String eighty = (eight + "&").repeat(8) + eight + ">" + eight;
        String seventyNine = (eight + "&").repeat(8) + eight + ">a(a(x))=a(a(a(y)))";
        dueLaws(eighty, 1);
        dueFault(eighty + ";x=x", eighty.length() + 1, 4);
        dueFault(eighty + "; \nx=x", eighty.length() + 3, 4);
        dueFault(eighty + ";", eighty.length() + 1, 1);
        dueFault(eighty + "w", eighty.length(), 1);
        dueLaws(seventyNine, 1);
        dueFault(seventyNine + ";x", seventyNine.length() + 2, 1);
        dueFault(seventyNine + ";x=x", seventyNine.length() + 3, 4);
        dueFault(seventyNine + ";a(x)=x", seventyNine.length() + 3, 4);
        dueFault(seventyNine + ";b=w", seventyNine.length() + 3, 1);
        String pairs = "a(x,y)=a(y,x)";
        String seventyEight = (pairs + "&").repeat(12) + pairs;
        dueLaws(seventyEight + ">x=y", 1);
        dueFault(seventyEight + ">a(x,y)=x", seventyEight.length() + 5, 4);
    }

    /** Eighty terms, of one law or two: all of them have a say. */
    private static void mostTermsAreTried() {
        AlgebraCabinet cabinet = new AlgebraCabinet();
        Due.read(cabinet, 0, "7;c6;c0;u1234560");
        String forty = "x=x&".repeat(38) + "y=y>";
        Due.due("forty sames", Due.laws(cabinet, 0, forty + "x=a"), 1);
        Due.due("forty sames", cabinet.fails(0, 0, 0), 42);
        Due.due("forty sames", cabinet.witness(0, 0, 0), 0);
        Due.due("the last is y", Due.laws(cabinet, 0, forty + "x=y"), 1);
        Due.due("the last is y", cabinet.fails(0, 0, 0), 42);
        Due.due("the one ahead", Due.laws(cabinet, 0, "x=x&".repeat(38) + "b=a>x=y"), 1);
        Due.due("the one ahead", cabinet.fails(0, 0, 0), 0);
        Due.due("the first", Due.laws(cabinet, 0, "z=a&" + "x=x&".repeat(37) + "x=x>x=y"), 1);
        Due.due("the first", cabinet.fails(0, 0, 0), 42);
        Due.due("the first", cabinet.witness(0, 0, 0), 7 + 6);
        // two laws, the second of which has the last two of eighty terms
        Due.due("a second law", Due.laws(cabinet, 0, "x=x&".repeat(37) + "x=x>c(x)=c(x);" + "x=a"), -100 - (4 * 38 + 10));
        Due.due("a second law", Due.laws(cabinet, 0, "x=x&".repeat(36) + "x=x>c(x)=c(x);" + "x=a"), 2);
        Due.due("a second law", cabinet.fails(0, 0, 1), 6);
        Due.due("models of eighty terms", cabinet.models(2, 211, 0, false), 0);
    }

    /** Each text stands for itself, however many were read ahead of it, longer ones and faulty ones too. */
    private static void listsAreReadAnew() {
        AlgebraCabinet cabinet = new AlgebraCabinet();
        Due.read(cabinet, 0, "3;c2");
        String[] texts = {"x=y&y=z&z=x>a=x;x=y;z=z;y=y;x=x;y=x", "z=a", "x=y&d=z>x=w", "a=a", "y=a", "b(x)=b(z)&a=a(x)", "x=y"};
        int[] fails = {2, 2, 2, 0, 2, 2, 6};
        int[] witnesses = {0, 0, 0, NONE, 0, 0, 7};
        for (int round = 0; round < 8; round++) {
            for (int i = 0; i < texts.length; i++) {
                Due.laws(cabinet, 0, texts[i]);
                Due.due("fails of " + texts[i], cabinet.fails(0, 0, 0), fails[i]);
                Due.due("witness of " + texts[i], cabinet.witness(0, 0, 0), witnesses[i]);
            }
        }
    }

    /** "The one whose place is the least is told". */
    private static void leastPlace() {
        String deep = nested(8) + "=x";
        dueFault("x=w;" + deep, 2, 1);
        dueFault(deep + ";x=w", 16, 3);
        dueFault(deep + ";x=x".repeat(6), 16, 3);
        dueFault("x=x;".repeat(6) + deep, 24, 4);
        dueFault("x=x;".repeat(5) + deep + ";x=x", 36, 3);
        String eight = "a(a(a(x)))=a(a(a(y)))";
        dueFault((eight + "&").repeat(9) + eight + ">x=w", 220, 4);
        dueFault((eight + "&").repeat(9) + eight + "&w", 220, 1);
    }

    /** "of one place 3 ahead of 4": 72 terms, then eight letters, then the 81st term, which lies within them. */
    private static void threeAheadOfFour() {
        String eight = "a(a(a(x)))=a(a(a(y)))";
        String seventyTwo = (eight + "&").repeat(9);
        dueFault(seventyTwo + nested(8) + "=x", seventyTwo.length() + 16, 3);
        dueFault(seventyTwo + "a(a(x))=" + nested(8), seventyTwo.length() + 18, 4);
        dueFault((eight + "&").repeat(8) + "a(a(a(x)))=a(a(y))&" + nested(8), seventyTwo.length() - 3 + 16, 3);
    }

    /** "If there is none of these: 2 the first letter from the left that has another number of arguments .." */
    private static void otherNumberOfArguments() {
        String[] by = {"", "(x)", "(x,y)"};
        for (String letter : new String[] {"a", "b", "c", "d"}) {
            for (int first = 0; first < 3; first++) {
                for (int then = 0; then < 3; then++) {
                    String text = letter + by[first] + "=" + letter + by[then];
                    if (first == then) {
                        dueLaws(text, 1);
                    } else {
                        dueFault(text, by[first].length() + 2, 2);
                        dueFault("x=" + letter + by[first] + ";y=y>" + letter + by[then] + "=z", by[first].length() + 8, 2);
                        dueFault(text + ";", text.length() + 1, 1);
                        dueFault(text + ";" + nested(8), text.length() + 17, 3);
                        dueFault(text + ";x=x".repeat(6), text.length() + 21, 4);
                    }
                }
            }
        }
        dueFault("a(a)=x", 2, 2);
        dueFault("a(x,a(x))=x", 4, 2);
        dueFault("a(a(x,y))=x", 2, 2);
        dueFault("a(x)=b;b=a(x,x)", 9, 2);
        dueFault("a=b;b(x)=a(x)", 4, 2);
        dueFault("a=a;a(x)=a", 4, 2);
        dueFault("a(x)=a(x);a=a(x);a(x,x)=a", 10, 2);
        dueLaws("a=b(a);c(a,b(x))=d", 2);
    }

    /** "A list FITS an algebra if it has, for each letter in it, that operation, with as many arguments as its arity." */
    private static void fits() {
        String[] by = {"", "(x)", "(x,x)"};
        for (int letter = 0; letter < 4; letter++) {
            for (int arguments = 0; arguments < 3; arguments++) {
                AlgebraCabinet cabinet = new AlgebraCabinet();
                Due.laws(cabinet, 0, "abcd".charAt(letter) + by[arguments] + "=x");
                for (int arities : Due.allArities()) {
                    cabinet.make(0, 1, arities);
                    int digit = arities / new int[] {1, 10, 100, 1000}[letter] % 10;
                    boolean fitting = digit == arguments + 1;
                    Due.due("fits " + arities, cabinet.holds(0, 0), fitting ? NONE : UNFIT);
                    Due.due("fits models " + arities, cabinet.models(1, arities, 0, true), fitting ? 1 : UNFIT);
                }
            }
        }
    }

    private static void fitsWhereverLettersStand() {
        String[] texts = {"d=x", "x=d", "x=d>x=x", "x=x&d=x>x=x", "x=x>x=d", "a(d,x)=x", "a(x,d)=x", "b(b(d))=x", "x=x;x=d",
            "a(x,y)=a(y,x);b(x)=c;x=y;x=z;z=y;a(c,b(d))=x"};
        for (String text : texts) {
            AlgebraCabinet cabinet = new AlgebraCabinet();
            Due.due("laws " + text, Math.min(Due.laws(cabinet, 0, text), 1), 1);
            cabinet.make(0, 2, 123);
            cabinet.make(1, 2, 1123);
            cabinet.make(2, 2, 2123);
            Due.due("no such operation: " + text, cabinet.holds(0, 0), UNFIT);
            Due.isTrue("fits: " + text, cabinet.holds(1, 0) != UNFIT);
            Due.due("another arity: " + text, cabinet.holds(2, 0), UNFIT);
        }
        AlgebraCabinet cabinet = new AlgebraCabinet();
        Due.laws(cabinet, 0, "x=y&y=z>x=z");
        for (int arities : Due.allArities()) {
            cabinet.make(0, 1, arities);
            Due.due("a list without letters fits " + arities, cabinet.holds(0, 0), NONE);
        }
    }

    /** "An ASSIGNMENT gives each variable that stands in the law an element": of each set of variables, all or one fail. */
    private static void variablesThatStandInTheLaw() {
        String[] variables = {"x", "y", "z"};
        for (int n = 2; n <= 7; n++) {
            for (int set = 0; set < 8; set++) {
                StringBuilder text = new StringBuilder("a=a");
                int all = 1;
                for (int i = 0; i < 3; i++) {
                    if ((set >> i & 1) != 0) {
                        text.append("&").append(variables[i]).append("=").append(variables[i]);
                        all *= n;
                    }
                }
                AlgebraCabinet cabinet = new AlgebraCabinet();
                Due.read(cabinet, 0, n + ";c0;c1");
                Due.laws(cabinet, 0, text + ">a=b;" + text + ">b=b;x=x&y=y&z=z>a=b");
                Due.due("all fail", cabinet.fails(0, 0, 0), all);
                Due.due("the first of all", cabinet.witness(0, 0, 0), 0);
                Due.due("none fails", cabinet.fails(0, 0, 1), 0);
                Due.due("the first of none", cabinet.witness(0, 0, 1), NONE);
                Due.due("another law has its own variables", cabinet.fails(0, 0, 2), n * n * n);
            }
        }
    }

    /** "they are in order by x, then y, then z (a variable that does not stand there is 0)": each alone is the witness. */
    private static void orderOfAssignments() {
        for (int x = 0; x < 7; x++) {
            for (int y = 0; y < 7; y++) {
                for (int z = 0; z < 7; z++) {
                    AlgebraCabinet cabinet = new AlgebraCabinet();
                    Due.read(cabinet, 0, "7;c" + x + ";c" + y + ";c" + z + ";u1234560");
                    Due.laws(cabinet, 0, "x=a&y=b&z=c>d(x)=x;y=b>d(y)=y;z=c>d(z)=z;x=a&z=c>d(x)=x");
                    int[] witnesses = {49 * x + 7 * y + z, 7 * y, z, 49 * x + z};
                    for (int k = 0; k < 4; k++) {
                        Due.due("one fails", cabinet.fails(0, 0, k), 1);
                        Due.due("the one that fails", cabinet.witness(0, 0, k), witnesses[k]);
                    }
                }
            }
        }
        AlgebraCabinet cabinet = new AlgebraCabinet();
        cabinet.make(0, 7, 0);
        Due.laws(cabinet, 0, "x=y;y=x;z=y;z=x;x=y>y=z;y=z>x=y");
        int[] witnesses = {7, 7, 1, 1, 1, 7 + 1};
        for (int k = 0; k < 6; k++) {
            Due.due("the first that fails", cabinet.witness(0, 0, k), witnesses[k]);
            Due.due("how many fail", cabinet.fails(0, 0, k), 42);
        }
    }

    /** "It KEEPS the law if both terms of the last same have one value, or those of some same ahead of > have not." */
    private static void keeps() {
        Object[][] laws = {{"a=b", 1}, {"a=a", 0}, {"a=b>x=y", 0}, {"a=a>x=y", 42}, {"a=a&a=b>x=y", 0}, {"a=b&a=a>x=y", 0},
            {"a=a&b=b>x=y", 42}, {"a=a&b=b&a=b>x=y", 0}, {"a=b&a=a&b=b>x=y", 0}, {"a=a&a=b&b=b>x=y", 0}, {"a=b>a=b", 0},
            {"a=a>a=b", 1}, {"x=y&y=z>x=z", 0}, {"x=x&y=z>x=y", 42}, {"x=y&x=x>x=z", 42}, {"x=x&x=y>x=z", 42},
            {"x=y>a=b", 7}, {"x=a>a=b", 1}, {"x=a>x=a", 0}, {"x=a&x=b>a=b", 0}, {"x=a&y=b>x=y", 1}};
        for (Object[] law : laws) {
            AlgebraCabinet cabinet = new AlgebraCabinet();
            Due.read(cabinet, 0, "7;c0;c1");
            Due.laws(cabinet, 0, (String) law[0]);
            int fails = (Integer) law[1];
            Due.due("fails " + law[0], cabinet.fails(0, 0, 0), fails);
            Due.due("holds " + law[0], cabinet.holds(0, 0), fails == 0 ? NONE : 0);
            Due.isTrue("witness " + law[0], (cabinet.witness(0, 0, 0) == NONE) == (fails == 0));
        }
    }
}
