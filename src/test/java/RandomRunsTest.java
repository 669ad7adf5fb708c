import java.nio.charset.StandardCharsets;
import java.util.Random;

/** Runs of calls by fixed seeds, each answer compared with that of PlainCabinet. */
public final class RandomRunsTest {
    private static final int RUNS = 240;
    /** The calls of one object that the document speaks of, and how many of them are left for the end of a run. */
    private static final int MOST_CALLS = 512;
    private static final int LAST_CALLS = 130;
    private static final int[] SHAPES = {0, 1, 2, 3, 13, 23, 33, 22, 21, 123, 321, 132, 333, 2211, 1323, 3333};

    private final Random random;
    private final AlgebraCabinet cabinet = new AlgebraCabinet();
    private final PlainCabinet plain = new PlainCabinet();
    private final int run;
    /** The arities that most algebras and laws of a run have, so that they meet. */
    private final int shape;
    /** How many calls the cabinet has had: each answer is compared. */
    private int calls;

    private RandomRunsTest(int run) {
        this.run = run;
        random = new Random(run);
        shape = SHAPES[random.nextInt(SHAPES.length)];
    }

    public static void main(String[] args) {
        int runs = args.length > 0 ? Integer.parseInt(args[0]) : RUNS;
        for (int run = 0; run < runs; run++) {
            new RandomRunsTest(run).go();
        }
        Due.finish();
    }

    private void go() {
        for (int i = 0; i < 3; i++) {
            readAlgebra(i);
            lawTexts();
        }
        while (calls < MOST_CALLS - LAST_CALLS) {
            step();
        }
        for (int i = 0; i < 8; i++) {
            tellDrawer((run + i) % 8);
        }
        Due.isTrue("run " + run + " has no more than " + MOST_CALLS + " calls", calls <= MOST_CALLS);
    }

    /** As far as there are calls left. */
    private void tellDrawer(int drawer) {
        String text = plain.drawerText(drawer);
        if (calls + 1 + text.length() > MOST_CALLS) {
            return;
        }
        due("tell " + drawer, cabinet.tell(drawer), plain.tell(drawer));
        for (int i = 0; i < text.length(); i++) {
            due("out " + i, cabinet.out(i), plain.out(i));
        }
    }

    private void due(String call, int got, int want) {
        calls++;
        Due.due("run " + run + " call " + calls + " " + call, got, want);
    }

    private boolean chance(double p) {
        return random.nextDouble() < p;
    }

    /** Most often one of 0 .. below - 1, sometimes one just outside or far off. */
    private int near(int below) {
        if (chance(0.93) && below > 0) {
            return random.nextInt(below);
        }
        int[] odd = {-1, -2, below, below + 1, Integer.MAX_VALUE, Integer.MIN_VALUE, 8, 4};
        return odd[random.nextInt(odd.length)];
    }

    private int drawer() {
        return chance(0.8) ? random.nextInt(4) : near(8);
    }

    private int list() {
        return near(4);
    }

    private int element(int drawer) {
        return near(plain.sizeOf(drawer));
    }

    private int operation(int drawer) {
        return near(plain.operationsOf(drawer));
    }

    private int size() {
        return chance(0.75) ? 1 + random.nextInt(4) : chance(0.8) ? 1 + random.nextInt(7) : near(9);
    }

    private int arities() {
        return chance(0.7) ? shape : chance(0.9) ? SHAPES[random.nextInt(SHAPES.length)] : near(40000);
    }

    private void step() {
        int kind = random.nextInt(100);
        if (kind < 8) {
            lawTexts();
        } else if (kind < 16) {
            readAlgebra(drawer());
        } else if (kind < 30) {
            tables();
        } else if (kind < 38) {
            tapeAndOut();
        } else if (kind < 46) {
            operations();
        } else if (kind < 58) {
            trials();
        } else if (kind < 66) {
            parts();
        } else if (kind < 76) {
            congruences();
        } else if (kind < 88) {
            maps();
        } else {
            functionsAndModels();
        }
        if (chance(0.1)) {
            int what = near(5);
            due("count " + what, cabinet.count(what), plain.count(what));
        }
    }

    private void tables() {
        int d = drawer();
        int o = operation(d);
        int a = element(d);
        int b = element(d);
        switch (random.nextInt(8)) {
            case 0 -> {
                int size = size();
                int arities = arities();
                due("make " + d + " " + size + " " + arities, cabinet.make(d, size, arities), plain.make(d, size, arities));
            }
            case 1, 2 -> {
                int v = element(d);
                due("set " + d + " " + o + " " + a + " " + b + " " + v, cabinet.set(d, o, a, b, v), plain.set(d, o, a, b, v));
            }
            case 3 -> {
                int arity = near(3);
                due("cell", cabinet.cell(d, o, arity, a, b), plain.cell(d, o, arity, a, b));
            }
            case 4 -> {
                int many = near(plain.sizeOf(d) + 1);
                due("stamp", cabinet.stamp(d, o, a, b, many), plain.stamp(d, o, a, b, many));
            }
            case 5 -> {
                int what = near(4);
                due("about " + d + " " + what, cabinet.about(d, what), plain.about(d, what));
            }
            case 6 -> {
                if (chance(0.3)) {
                    due("drop " + d, cabinet.drop(d), plain.drop(d));
                }
            }
            default -> {
                for (int i = random.nextInt(3); i >= 0; i--) {
                    due("undo", cabinet.undo(), plain.undo());
                }
            }
        }
    }

    private void tapeAndOut() {
        switch (random.nextInt(3)) {
            case 0 -> {
                int d = drawer();
                due("tell " + d, cabinet.tell(d), plain.tell(d));
            }
            case 1 -> {
                int i = near(40);
                due("out " + i, cabinet.out(i), plain.out(i));
            }
            default -> {
                for (int i = random.nextInt(24); i >= 0; i--) {
                    feed(random.nextInt(), random.nextInt(), random.nextInt(), random.nextInt(), random.nextInt());
                }
                int n = near(plain.count(0) + 1);
                due("trim " + n, cabinet.trim(n), plain.trim(n));
                due("trim 0", cabinet.trim(0), plain.trim(0));
            }
        }
    }

    private void feed(int a, int b, int c, int d, int e) {
        due("feed", cabinet.feed(a, b, c, d, e), plain.feed(a, b, c, d, e));
    }

    private void type(String text) {
        due("trim 0", cabinet.trim(0), plain.trim(0));
        byte[] bytes = text.getBytes(StandardCharsets.ISO_8859_1);
        int[] words = new int[(bytes.length + 19) / 20 * 5];
        for (int i = 0; i < bytes.length; i++) {
            words[i / 4] |= (bytes[i] & 255) << 24 - 8 * (i % 4);
        }
        for (int i = 0; i < words.length; i += 5) {
            feed(words[i], words[i + 1], words[i + 2], words[i + 3], words[i + 4]);
        }
        int length = Math.min(bytes.length, 400);
        due("trim " + length, cabinet.trim(length), plain.trim(length));
    }

    private String spoilt(String text, String signs) {
        StringBuilder spoilt = new StringBuilder(text);
        int at = random.nextInt(text.length() + 1);
        char sign = signs.charAt(random.nextInt(signs.length()));
        switch (random.nextInt(4)) {
            case 0 -> spoilt.insert(at, sign);
            case 1 -> spoilt.setLength(at);
            case 2 -> spoilt.replace(at, Math.min(at + 1, text.length()), String.valueOf(sign));
            default -> spoilt.replace(at, Math.min(at + 1 + random.nextInt(3), text.length()), "");
        }
        return spoilt.toString();
    }

    private void readAlgebra(int drawer) {
        int size = chance(0.8) ? 1 + random.nextInt(4) : 1 + random.nextInt(7);
        int arities = chance(0.8) ? shape : SHAPES[random.nextInt(SHAPES.length)];
        StringBuilder text = new StringBuilder().append(size);
        int kind = random.nextInt(5);
        for (int rest = arities; rest > 0; rest /= 10) {
            int arity = rest % 10 - 1;
            text.append(';').append("cub".charAt(arity));
            for (int i = 0; i < Math.pow(size, arity); i++) {
                text.append(cellOf(kind, size, i));
            }
        }
        if (chance(0.03)) {
            text.append(";c0;c0;c0");
        }
        String typed = chance(0.15) ? spoilt(text.toString(), "0123456789;cub x") : text.toString();
        type(typed);
        due("read " + drawer + " " + typed, cabinet.read(drawer), plain.read(drawer));
        due("fault", cabinet.fault(), plain.fault());
    }

    /** By kinds, as tables by chance alone have few parts, congruences and maps. */
    private int cellOf(int kind, int size, int i) {
        int a = i / size;
        int b = i % size;
        switch (kind) {
            case 0: return (a + b) % size;
            case 1: return Math.min(a, b);
            case 2: return chance(0.8) ? b : random.nextInt(size);
            case 3: return chance(0.8) ? 0 : random.nextInt(size);
            default: return random.nextInt(size);
        }
    }

    private void lawTexts() {
        StringBuilder text = new StringBuilder();
        int laws = chance(0.9) ? 1 + random.nextInt(3) : 5 + random.nextInt(3);
        int depth = chance(0.9) ? random.nextInt(4) : 6 + random.nextInt(3);
        for (int i = 0; i < laws; i++) {
            text.append(i > 0 ? ";" : "").append(law(depth));
        }
        if (chance(0.08)) {
            text.append("&x=x".repeat(random.nextInt(50))).append(chance(0.7) ? ">x=y" : "");
        }
        String typed = chance(0.3) ? spoilt(text.toString(), "xyzabcd(),=&>; \nw\u00e1") : text.toString();
        if (chance(0.2)) {
            typed = typed.replaceAll("([(=&>;])", chance(0.5) ? "$1 " : "\n $1");
        }
        type(typed.length() > 400 ? typed.substring(0, 400) : typed);
        int list = list();
        due("laws " + list + " " + typed, cabinet.laws(list), plain.laws(list));
        due("fault", cabinet.fault(), plain.fault());
        due("count 4", cabinet.count(4), plain.count(4));
    }

    private String law(int depth) {
        StringBuilder law = new StringBuilder();
        int conditions = chance(0.3) ? 1 + random.nextInt(2) : 0;
        for (int i = 0; i < conditions; i++) {
            law.append(i > 0 ? "&" : "").append(term(1)).append('=').append(term(1));
        }
        return law.append(conditions > 0 ? ">" : "").append(term(depth)).append('=').append(term(Math.min(depth, 2))).toString();
    }

    private String term(int depth) {
        int letters = Integer.toString(shape).length();
        if (depth == 0 || shape == 0 || chance(depth > 4 ? 0.05 : 0.25)) {
            return String.valueOf("xyz".charAt(random.nextInt(3)));
        }
        int operation = random.nextInt(letters);
        int arity = shape / (int) Math.pow(10, operation) % 10 - 1;
        if (chance(0.01)) {
            arity = random.nextInt(3);
        }
        String letter = String.valueOf("abcd".charAt(operation));
        if (arity == 0) {
            return letter;
        }
        String second = arity == 2 ? "," + term(depth > 4 ? random.nextInt(2) : depth - 1) : "";
        return letter + "(" + term(depth - 1) + second + ")";
    }

    private void operations() {
        int d = drawer();
        int o = operation(d);
        int a = element(d);
        due("traits", cabinet.traits(d, o), plain.traits(d, o));
        due("powers", cabinet.powers(d, o, a), plain.powers(d, o, a));
        due("centre", cabinet.centre(d, o), plain.centre(d, o));
    }

    private void trials() {
        int d = drawer();
        int l = list();
        int k = near(3);
        due("holds " + d + " " + l, cabinet.holds(d, l), plain.holds(d, l));
        due("fails " + d + " " + l + " " + k, cabinet.fails(d, l, k), plain.fails(d, l, k));
        due("witness " + d + " " + l + " " + k, cabinet.witness(d, l, k), plain.witness(d, l, k));
    }

    private void parts() {
        int d = drawer();
        int bits = near(1 << plain.sizeOf(d));
        due("span", cabinet.span(d, bits), plain.span(d, bits));
        due("parts", cabinet.part(d, -1), plain.part(d, -1));
        int k = near(Math.max(plain.part(d, -1), 1));
        due("part " + k, cabinet.part(d, k), plain.part(d, k));
        if (chance(0.5)) {
            int to = drawer();
            due("sub " + d + " " + k + " " + to, cabinet.sub(d, k, to), plain.sub(d, k, to));
        }
    }

    private void congruences() {
        int d = drawer();
        if (plain.sizeOf(d) > 5 && chance(0.8)) {
            return;
        }
        int a = element(d);
        int b = element(d);
        due("link " + d + " " + a + " " + b, cabinet.link(d, a, b), plain.link(d, a, b));
        due("congruences", cabinet.congruence(d, -1), plain.congruence(d, -1));
        int all = Math.max(plain.congruence(d, -1), 1);
        int k = near(all);
        int l = near(all);
        boolean up = random.nextBoolean();
        due("congruence " + k, cabinet.congruence(d, k), plain.congruence(d, k));
        due("bound " + d + " " + k + " " + l + " " + up, cabinet.bound(d, k, l, up), plain.bound(d, k, l, up));
        if (chance(0.5)) {
            int to = drawer();
            due("quotient " + d + " " + k + " " + to, cabinet.quotient(d, k, to), plain.quotient(d, k, to));
        }
    }

    private void maps() {
        int d = drawer();
        int e = drawer();
        int to = drawer();
        double lines = Math.pow(Math.max(1, plain.sizeOf(e)), plain.sizeOf(d));
        if (lines <= 4000) {
            int what = near(4);
            due("maps", cabinet.map(d, e, what, -1), plain.map(d, e, what, -1));
            int k = near(Math.max(plain.map(d, e, what, -1), 1));
            due("map " + k, cabinet.map(d, e, what, k), plain.map(d, e, what, k));
            due("alike " + d + " " + e, cabinet.alike(d, e), plain.alike(d, e));
        }
        if (chance(0.5)) {
            due("product " + d + " " + e + " " + to, cabinet.product(d, e, to), plain.product(d, e, to));
        }
        if (plain.sizeOf(d) <= 4 || plain.sizeOf(d) == 5 && chance(0.3) || plain.sizeOf(d) == 6 && chance(0.02)) {
            due("least " + d + " " + to, cabinet.least(d, to), plain.least(d, to));
        }
    }

    private void functionsAndModels() {
        int d = drawer();
        due("functions", cabinet.function(d, -1), plain.function(d, -1));
        int k = near(Math.max(plain.function(d, -1), 1));
        due("function " + k, cabinet.function(d, k), plain.function(d, k));
        int size = size();
        int arities = arities();
        int list = list();
        double tables = PlainCabinet.tables(size, arities);
        if (tables <= 300 || tables > 60000 || tables <= 3000 && chance(0.1)) {
            for (boolean forms : new boolean[] {false, true}) {
                due("models " + size + " " + arities + " " + list + " " + forms, cabinet.models(size, arities, list, forms),
                    plain.models(size, arities, list, forms));
            }
            int form = near(Math.max(plain.models(size, arities, list, true), 1));
            int to = drawer();
            due("model " + form + " " + to, cabinet.model(size, arities, list, form, to),
                plain.model(size, arities, list, form, to));
        }
    }
}
