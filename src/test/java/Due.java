import java.nio.charset.StandardCharsets;
import java.util.stream.IntStream;

/** What the tests share: answers that are due, texts for the tape, and the end of a test. */
final class Due {
    private static int wrong = 0;

    private Due() {
    }

    static void due(String call, int got, int want) {
        if (got != want) {
            wrong++;
            System.out.println(call + " answered " + got + ", due is " + want);
        }
    }

    static void isTrue(String what, boolean holds) {
        if (!holds) {
            wrong++;
            System.out.println("not so: " + what);
        }
    }

    static void finish() {
        if (wrong != 0) {
            System.out.println(wrong + " answers are not as due");
            System.exit(1);
        }
    }

    /** Puts a text behind what the tape has, which must be nothing if the text's length is no multiple of 20. */
    static void type(AlgebraCabinet cabinet, String text) {
        int before = cabinet.count(0);
        byte[] bytes = text.getBytes(StandardCharsets.ISO_8859_1);
        int[] words = new int[(bytes.length + 19) / 20 * 5];
        for (int i = 0; i < bytes.length; i++) {
            words[i / 4] |= (bytes[i] & 255) << 24 - 8 * (i % 4);
        }
        for (int i = 0; i < words.length; i += 5) {
            cabinet.feed(words[i], words[i + 1], words[i + 2], words[i + 3], words[i + 4]);
        }
        due("trim behind a text", cabinet.trim(before + bytes.length), before + bytes.length);
    }

    static int laws(AlgebraCabinet cabinet, int list, String text) {
        type(cabinet, text);
        return cabinet.laws(list);
    }

    static int read(AlgebraCabinet cabinet, int drawer, String text) {
        type(cabinet, text);
        return cabinet.read(drawer);
    }

    /** The algebra of a drawer as tell() writes it; "" for an empty drawer. */
    static String told(AlgebraCabinet cabinet, int drawer) {
        int length = cabinet.tell(drawer);
        StringBuilder text = new StringBuilder();
        for (int i = 0; i < length; i++) {
            text.append((char) cabinet.out(i));
        }
        return text.toString();
    }

    static void dueText(String call, String got, String want) {
        if (!got.equals(want)) {
            wrong++;
            System.out.println(call + " gave " + got + ", due is " + want);
        }
    }

    /** Whether a number tells arities: no operations, or one to four digits, each 1, 2 or 3. */
    static boolean areArities(int number) {
        return number == 0 || Integer.toString(number).matches("[123]{1,4}");
    }

    /** All numbers that tell arities: 1 + 3 + 9 + 27 + 81 of them. */
    static int[] allArities() {
        return IntStream.rangeClosed(0, 3333).filter(Due::areArities).toArray();
    }

    /** How many cells an algebra of a size and arities has. */
    static int cells(int size, int arities) {
        int cells = 0;
        for (int rest = arities; rest > 0; rest /= 10) {
            cells += rest % 10 == 1 ? 1 : rest % 10 == 2 ? size : size * size;
        }
        return cells;
    }

    /** 49 l0 + 7 l1 + l2 for "012", and so on. */
    static int line(String digits) {
        int number = 0;
        for (char digit : digits.toCharArray()) {
            number = number * 7 + digit - '0';
        }
        return number;
    }
}
