import java.util.ArrayDeque;
import java.util.ArrayList;
import java.util.Arrays;
import java.util.Deque;
import java.util.HashMap;
import java.util.List;
import java.util.Map;
import java.util.TreeMap;
import java.util.TreeSet;
import java.util.stream.IntStream;

/** What the document says, done by brute force and in other ways than the class: the random runs are compared with it. */
final class PlainCabinet {
    static final int NONE = -1, EMPTY = -2, OUTSIDE = -3, UNFIT = -4, MANY = -5, CAST = -12, INDEX = -13;

    /** Never changed once it is made. */
    record Table(int size, List<Integer> arities, List<Integer> cells) {
        int value(int operation, int... arguments) {
            int start = 0;
            for (int o = 0; o < operation; o++) {
                start += power(size, arities.get(o));
            }
            int place = 0;
            for (int i = 0; i < arities.get(operation); i++) {
                place = place * size + arguments[i];
            }
            return cells.get(start + place);
        }
    }

    private static int power(int base, int exponent) {
        int power = 1;
        for (int i = 0; i < exponent; i++) {
            power *= base;
        }
        return power;
    }

    interface Values {
        int of(int operation, int... arguments);
    }

    record Term(char sign, List<Term> arguments) {
    }

    record Law(List<Term[]> sames) {
    }

    record Change(int drawer, Table before) {
    }

    private final Table[] drawers = new Table[8];
    @SuppressWarnings({"unchecked", "rawtypes"})
    private final List<Law>[] lists = new List[4];
    private final List<Integer> tape = new ArrayList<>();
    private String out = "";
    private final Deque<Change> changes = new ArrayDeque<>();
    private int fault;

    int feed(int... numbers) {
        if (tape.size() > 380) {
            return MANY;
        }
        for (int number : numbers) {
            tape.add(number >> 24 & 255);
            tape.add(number >> 16 & 255);
            tape.add(number >> 8 & 255);
            tape.add(number & 255);
        }
        return tape.size();
    }

    int trim(int n) {
        if (n < 0 || n > tape.size()) {
            return OUTSIDE;
        }
        tape.subList(n, tape.size()).clear();
        return n;
    }

    int out(int i) {
        return i < 0 || i >= out.length() ? NONE : out.charAt(i);
    }

    // ---- tables

    private static List<Integer> aritiesOf(int number) {
        List<Integer> arities = new ArrayList<>();
        if (number == 0) {
            return arities;
        }
        if (!Integer.toString(number).matches("[123]{1,4}")) {
            return null;
        }
        for (char digit : new StringBuilder(Integer.toString(number)).reverse().toString().toCharArray()) {
            arities.add(digit - '1');
        }
        return arities;
    }

    private static int cellsOf(int size, List<Integer> arities) {
        int cells = 0;
        for (int arity : arities) {
            cells += power(size, arity);
        }
        return cells;
    }

    private static Table build(int size, List<Integer> arities, Values values) {
        List<Integer> cells = new ArrayList<>();
        for (int o = 0; o < arities.size(); o++) {
            if (arities.get(o) == 0) {
                cells.add(values.of(o));
            }
            for (int a = 0; a < size && arities.get(o) == 1; a++) {
                cells.add(values.of(o, a));
            }
            for (int ab = 0; ab < size * size && arities.get(o) == 2; ab++) {
                cells.add(values.of(o, ab / size, ab % size));
            }
        }
        return new Table(size, arities, cells);
    }

    private void put(int drawer, Table table) {
        changes.addLast(new Change(drawer, drawers[drawer]));
        if (changes.size() > 16) {
            changes.removeFirst();
        }
        drawers[drawer] = table;
    }

    private static boolean noDrawer(int... some) {
        return Arrays.stream(some).anyMatch(d -> d < 0 || d > 7);
    }

    private boolean noneIn(int... some) {
        return Arrays.stream(some).anyMatch(d -> drawers[d] == null);
    }

    int make(int drawer, int size, int arities) {
        if (noDrawer(drawer) || size < 1 || size > 7 || aritiesOf(arities) == null) {
            return OUTSIDE;
        }
        put(drawer, build(size, aritiesOf(arities), (o, arguments) -> 0));
        return drawers[drawer].cells.size();
    }

    private int operationRefusal(int drawer, int operation) {
        if (noDrawer(drawer)) {
            return OUTSIDE;
        }
        if (noneIn(drawer)) {
            return EMPTY;
        }
        return operation < 0 || operation >= drawers[drawer].arities.size() ? OUTSIDE : 0;
    }

    private static boolean out(int element, Table table) {
        return element < 0 || element >= table.size;
    }

    int set(int drawer, int operation, int a, int b, int v) {
        if (operationRefusal(drawer, operation) != 0) {
            return operationRefusal(drawer, operation);
        }
        Table table = drawers[drawer];
        int arity = table.arities.get(operation);
        if (arity > 0 && out(a, table) || arity > 1 && out(b, table) || out(v, table)) {
            return OUTSIDE;
        }
        put(drawer, build(table.size, table.arities, (o, at) -> o == operation
            && (arity < 1 || at[0] == a) && (arity < 2 || at[1] == b) ? v : table.value(o, at)));
        return table.value(operation, a, b);
    }

    int cell(int drawer, int operation, int arity, int a, int b) {
        if (operationRefusal(drawer, operation) != 0) {
            return operationRefusal(drawer, operation);
        }
        if (arity < 0 || arity > 2) {
            return OUTSIDE;
        }
        Table table = drawers[drawer];
        if (table.arities.get(operation) != arity) {
            return CAST;
        }
        return arity > 0 && out(a, table) || arity > 1 && out(b, table) ? INDEX : table.value(operation, a, b);
    }

    int stamp(int drawer, int operation, int row, int to, int many) {
        if (operationRefusal(drawer, operation) != 0) {
            return operationRefusal(drawer, operation);
        }
        Table table = drawers[drawer];
        if (table.arities.get(operation) != 2) {
            return CAST;
        }
        if (out(row, table) || out(to, table) || many < 0 || many > table.size) {
            return INDEX;
        }
        put(drawer, build(table.size, table.arities, (o, at) -> o == operation && at[0] == to && at[1] < many
            ? table.value(o, row, at[1]) : table.value(o, at)));
        return many;
    }

    int about(int drawer, int what) {
        if (noDrawer(drawer)) {
            return OUTSIDE;
        }
        if (noneIn(drawer)) {
            return EMPTY;
        }
        Table table = drawers[drawer];
        int number = 0;
        for (int o = table.arities.size() - 1; o >= 0; o--) {
            number = number * 10 + table.arities.get(o) + 1;
        }
        int others = (int) table.cells.stream().filter(v -> v != 0).count();
        int[] answers = {table.size, number, table.cells.size(), others};
        return what < 0 || what > 3 ? OUTSIDE : answers[what];
    }

    int drop(int drawer) {
        if (noDrawer(drawer)) {
            return OUTSIDE;
        }
        if (noneIn(drawer)) {
            return EMPTY;
        }
        put(drawer, null);
        return 1;
    }

    int tell(int drawer) {
        if (noDrawer(drawer)) {
            return OUTSIDE;
        }
        if (noneIn(drawer)) {
            return EMPTY;
        }
        Table table = drawers[drawer];
        StringBuilder text = new StringBuilder().append(table.size);
        int at = 0;
        for (int arity : table.arities) {
            text.append(';').append("cub".charAt(arity));
            for (int i = 0; i < power(table.size, arity); i++) {
                text.append(table.cells.get(at++));
            }
        }
        out = text.toString();
        return out.length();
    }

    private String useTape() {
        StringBuilder text = new StringBuilder();
        tape.forEach(b -> text.append((char) (int) b));
        tape.clear();
        return text.toString();
    }

    /** By what may stand at each place: a row of byte classes that grows with each operation. */
    int read(int drawer) {
        String text = useTape();
        if (noDrawer(drawer)) {
            return OUTSIDE;
        }
        fault = 0;
        int size = 0;
        List<Integer> arities = new ArrayList<>();
        List<Integer> cells = new ArrayList<>();
        String expected = "S";
        for (int at = 0; at <= text.length(); at++) {
            char sign = at < text.length() ? text.charAt(at) : 'E';
            char place = expected.charAt(0);
            expected = expected.substring(1);
            int kind = 0;
            if (place == 'S') {
                kind = sign >= '1' && sign <= '7' ? 0 : 1;
                size = sign - '0';
                expected = "O";
            } else if (place == 'O') {
                if (at == text.length()) {
                    break;
                }
                kind = sign != ';' ? 1 : arities.size() == 4 ? 3 : 0;
                expected = "A";
            } else if (place == 'A') {
                int arity = at < text.length() ? "cub".indexOf(sign) : -1;
                kind = arity < 0 ? 1 : 0;
                arities.add(Math.max(arity, 0));
                expected = "D".repeat(power(size, Math.max(arity, 0))) + "O";
            } else {
                kind = sign < '0' || sign > '9' ? 1 : sign - '0' >= size ? 2 : 0;
                cells.add(sign - '0');
            }
            if (kind != 0) {
                fault = kind;
                return -100 - at;
            }
        }
        put(drawer, new Table(size, arities, cells));
        return size;
    }

    int undo() {
        if (changes.isEmpty()) {
            return NONE;
        }
        Change change = changes.removeLast();
        drawers[change.drawer] = change.before;
        return change.drawer;
    }

    // ---- operations

    int traits(int drawer, int operation) {
        if (operationRefusal(drawer, operation) != 0) {
            return operationRefusal(drawer, operation);
        }
        Table t = drawers[drawer];
        if (t.arities.get(operation) != 2) {
            return CAST;
        }
        boolean[] trait = {true, true, false, true, true, true};
        for (int a = 0; a < t.size; a++) {
            boolean neutral = true;
            TreeSet<Integer> row = new TreeSet<>();
            TreeSet<Integer> column = new TreeSet<>();
            for (int b = 0; b < t.size; b++) {
                neutral &= t.value(operation, a, b) == b && t.value(operation, b, a) == b;
                row.add(t.value(operation, a, b));
                column.add(t.value(operation, b, a));
                trait[1] &= t.value(operation, a, b) == t.value(operation, b, a);
                for (int c = 0; c < t.size; c++) {
                    int ab = t.value(operation, a, b);
                    int ac = t.value(operation, a, c);
                    int bc = t.value(operation, b, c);
                    trait[0] &= t.value(operation, ab, c) == t.value(operation, a, bc);
                    trait[5] &= t.value(operation, a, bc) == t.value(operation, ab, ac);
                }
            }
            trait[2] |= neutral;
            trait[3] &= row.size() == t.size && column.size() == t.size;
            trait[4] &= t.value(operation, a, a) == a;
        }
        int sum = 0;
        for (int i = 0; i < 6; i++) {
            sum += trait[i] ? 1 << i : 0;
        }
        return sum;
    }

    int powers(int drawer, int operation, int a) {
        if (operationRefusal(drawer, operation) != 0) {
            return operationRefusal(drawer, operation);
        }
        Table t = drawers[drawer];
        if (out(a, t)) {
            return OUTSIDE;
        }
        if (t.arities.get(operation) != 2) {
            return CAST;
        }
        List<Integer> path = new ArrayList<>();
        int power = a;
        while (!path.contains(power)) {
            path.add(power);
            power = t.value(operation, power, a);
        }
        return 10 * path.indexOf(power) + path.size() - path.indexOf(power);
    }

    int centre(int drawer, int operation) {
        if (operationRefusal(drawer, operation) != 0) {
            return operationRefusal(drawer, operation);
        }
        Table t = drawers[drawer];
        if (t.arities.get(operation) != 2) {
            return CAST;
        }
        int bits = (1 << t.size) - 1;
        for (int a = 0; a < t.size; a++) {
            for (int b = 0; b < t.size; b++) {
                if (t.value(operation, a, b) != t.value(operation, b, a)) {
                    bits &= ~(1 << a);
                }
            }
        }
        return bits;
    }

    // ---- laws

    int laws(int list) {
        String text = useTape();
        if (list < 0 || list > 3) {
            return OUTSIDE;
        }
        fault = 0;
        List<int[]> letters = new ArrayList<>();
        int place = faultPlace(text, letters);
        if (fault == 0) {
            Map<Integer, Integer> first = new HashMap<>();
            for (int[] letter : letters) {
                if (fault == 0 && first.computeIfAbsent(letter[1], key -> letter[2]) != letter[2]) {
                    fault = 2;
                    place = letter[0];
                }
            }
        }
        if (fault != 0) {
            return -100 - place;
        }
        String packed = text.replaceAll("[ \n]", "");
        List<Law> laws = new ArrayList<>();
        for (String law : packed.split(";")) {
            List<Term[]> sames = new ArrayList<>();
            for (String same : law.split("[&>]")) {
                String[] sides = same.split("=");
                sames.add(new Term[] {term(sides[0]), term(sides[1])});
            }
            laws.add(new Law(sames));
        }
        lists[list] = laws;
        return laws.size();
    }

    /**
     * An automaton, sign by sign: state t where a term must come, f behind one. The stack has the parentheses that are
     * open, each with the argument that is read.
     */
    private int faultPlace(String text, List<int[]> letters) {
        String state = "t";
        Deque<Character> stack = new ArrayDeque<>();
        Deque<int[]> open = new ArrayDeque<>();
        boolean right = false;
        boolean condition = false;
        boolean concluded = false;
        boolean callable = false;
        int laws = 0;
        int terms = 0;
        for (int at = 0; at < text.length(); at++) {
            char sign = text.charAt(at);
            if (sign == ' ' || sign == '\n') {
                continue;
            }
            if (state.equals("t")) {
                if ("xyzabcd".indexOf(sign) < 0) {
                    return wrong(1, at);
                }
                terms++;
                if (stack.size() >= 8) {
                    return wrong(3, at);
                }
                if (laws >= 6 || terms > 80) {
                    return wrong(4, at);
                }
                callable = "abcd".indexOf(sign) >= 0;
                if (callable) {
                    letters.add(new int[] {at, sign, 0});
                }
                state = "f";
                continue;
            }
            // behind a term
            if (callable && sign == '(') {
                stack.push('1');
                open.push(letters.get(letters.size() - 1));
                open.peek()[2] = 1;
                state = "t";
                callable = false;
            } else if (!stack.isEmpty() && sign == ',' && stack.peek() == '1') {
                stack.pop();
                stack.push('2');
                open.peek()[2] = 2;
                state = "t";
                callable = false;
            } else if (!stack.isEmpty() && sign == ')') {
                stack.pop();
                open.pop();
                callable = false;
            } else if (stack.isEmpty() && !right && sign == '=') {
                right = true;
                state = "t";
            } else if (stack.isEmpty() && right && !concluded && (sign == '&' || sign == '>')) {
                condition = true;
                concluded = sign == '>';
                right = false;
                state = "t";
            } else if (stack.isEmpty() && right && condition == concluded && sign == ';') {
                laws++;
                condition = false;
                concluded = false;
                right = false;
                state = "t";
            } else {
                return wrong(1, at);
            }
        }
        boolean complete = state.equals("f") && stack.isEmpty() && right && condition == concluded;
        return complete ? 0 : wrong(1, text.length());
    }

    private int wrong(int kind, int place) {
        fault = kind;
        return place;
    }

    /** Of a good text without blanks: the arguments are parted where no parenthesis is open. */
    private static Term term(String text) {
        List<Term> arguments = new ArrayList<>();
        int depth = 0;
        int from = 2;
        for (int i = 1; i < text.length(); i++) {
            char sign = text.charAt(i);
            depth += sign == '(' ? 1 : 0;
            if (depth == 1 && (sign == ',' || sign == ')')) {
                arguments.add(term(text.substring(from, i)));
                from = i + 1;
            }
            depth -= sign == ')' ? 1 : 0;
        }
        return new Term(text.charAt(0), arguments);
    }

    int fault() {
        return fault;
    }

    private static boolean fits(Term term, List<Integer> arities) {
        int operation = term.sign - 'a';
        if (term.sign < 'x' && (operation >= arities.size() || arities.get(operation) != term.arguments.size())) {
            return false;
        }
        return term.arguments.stream().allMatch(t -> fits(t, arities));
    }

    private static boolean fits(List<Law> laws, List<Integer> arities) {
        return laws.stream().allMatch(l -> l.sames.stream().allMatch(s -> fits(s[0], arities) && fits(s[1], arities)));
    }

    private static int evaluate(Term term, Table table, int[] given) {
        if (term.sign >= 'x') {
            return given[term.sign - 'x'];
        }
        int[] values = term.arguments.stream().mapToInt(t -> evaluate(t, table, given)).toArray();
        return table.value(term.sign - 'a', values);
    }

    private static boolean stands(char variable, Term term) {
        return term.sign == variable || term.arguments.stream().anyMatch(t -> stands(variable, t));
    }

    private static List<Integer> breakers(Law law, Table table) {
        List<Integer> breakers = new ArrayList<>();
        int[] ends = new int[3];
        for (int i = 0; i < 3; i++) {
            char variable = (char) ('x' + i);
            ends[i] = law.sames.stream().anyMatch(s -> stands(variable, s[0]) || stands(variable, s[1])) ? table.size : 1;
        }
        for (int x = 0; x < ends[0]; x++) {
            for (int y = 0; y < ends[1]; y++) {
                for (int z = 0; z < ends[2]; z++) {
                    int[] given = {x, y, z};
                    int last = law.sames.size() - 1;
                    boolean conditions = law.sames.subList(0, last).stream().allMatch(s -> agree(s, table, given));
                    if (conditions && !agree(law.sames.get(last), table, given)) {
                        breakers.add(49 * x + 7 * y + z);
                    }
                }
            }
        }
        return breakers;
    }

    private static boolean agree(Term[] same, Table table, int[] given) {
        return evaluate(same[0], table, given) == evaluate(same[1], table, given);
    }

    private int trialRefusal(int drawer, int list) {
        if (noDrawer(drawer) || list < 0 || list > 3) {
            return OUTSIDE;
        }
        if (noneIn(drawer) || lists[list] == null) {
            return EMPTY;
        }
        return fits(lists[list], drawers[drawer].arities) ? 0 : UNFIT;
    }

    int holds(int drawer, int list) {
        if (trialRefusal(drawer, list) != 0) {
            return trialRefusal(drawer, list);
        }
        for (int k = 0; k < lists[list].size(); k++) {
            if (!breakers(lists[list].get(k), drawers[drawer]).isEmpty()) {
                return k;
            }
        }
        return NONE;
    }

    int fails(int drawer, int list, int k) {
        if (trialRefusal(drawer, list) != 0) {
            return trialRefusal(drawer, list);
        }
        return k < 0 || k >= lists[list].size() ? OUTSIDE : breakers(lists[list].get(k), drawers[drawer]).size();
    }

    int witness(int drawer, int list, int k) {
        int many = fails(drawer, list, k);
        return many < 0 ? many : many == 0 ? NONE : breakers(lists[list].get(k), drawers[drawer]).get(0);
    }

    // ---- parts

    private static boolean isPart(Table t, int bits) {
        for (int o = 0; o < t.arities.size(); o++) {
            for (int a = 0; a < t.size; a++) {
                for (int b = 0; b < t.size; b++) {
                    int arity = t.arities.get(o);
                    boolean inside = (arity < 1 || (bits >> a & 1) == 1) && (arity < 2 || (bits >> b & 1) == 1);
                    if (inside && (bits >> t.value(o, a, b) & 1) == 0) {
                        return false;
                    }
                }
            }
        }
        return true;
    }

    private static List<Integer> parts(Table t) {
        List<Integer> parts = new ArrayList<>();
        for (int bits = 0; bits < 1 << t.size; bits++) {
            if (isPart(t, bits)) {
                parts.add(bits);
            }
        }
        return parts;
    }

    private static <T> List<T> withoutFirst(List<T> list, T first) {
        return !list.isEmpty() && list.get(0).equals(first) ? list.subList(1, list.size()) : list;
    }

    int span(int drawer, int bits) {
        if (noDrawer(drawer)) {
            return OUTSIDE;
        }
        if (noneIn(drawer)) {
            return EMPTY;
        }
        if (bits < 0 || bits >= 1 << drawers[drawer].size) {
            return OUTSIDE;
        }
        int least = -1;
        for (int part : parts(drawers[drawer])) {
            if ((part & bits) == bits) {
                least &= part;
            }
        }
        return least;
    }

    int part(int drawer, int k) {
        if (noDrawer(drawer)) {
            return OUTSIDE;
        }
        if (noneIn(drawer)) {
            return EMPTY;
        }
        List<Integer> parts = withoutFirst(parts(drawers[drawer]), 0);
        return k == NONE ? parts.size() : k < 0 || k >= parts.size() ? OUTSIDE : parts.get(k);
    }

    int sub(int drawer, int k, int to) {
        if (noDrawer(drawer, to)) {
            return OUTSIDE;
        }
        if (noneIn(drawer)) {
            return EMPTY;
        }
        if (k < 0 || part(drawer, k) == OUTSIDE) {
            return OUTSIDE;
        }
        Table t = drawers[drawer];
        List<Integer> members = new ArrayList<>();
        for (int e = 0; e < t.size; e++) {
            if ((part(drawer, k) >> e & 1) == 1) {
                members.add(e);
            }
        }
        put(to, build(members.size(), t.arities, (o, at) ->
            members.indexOf(t.value(o, Arrays.stream(at).map(members::get).toArray()))));
        return members.size();
    }

    // ---- congruences

    private static void partitions(int size, List<Integer> line, List<List<Integer>> all) {
        int e = line.size();
        if (e == size) {
            all.add(new ArrayList<>(line));
            return;
        }
        for (int leader = 0; leader <= e; leader++) {
            if (leader == e || line.get(leader) == leader) {
                line.add(leader);
                partitions(size, line, all);
                line.remove(e);
            }
        }
    }

    /** By the document's words: all arguments place by place, not one at a time. */
    private static boolean isCongruence(Table t, List<Integer> line) {
        for (int o = 0; o < t.arities.size(); o++) {
            for (int a = 0; a < t.size; a++) {
                for (int c = 0; c < t.size; c++) {
                    if (!line.get(a).equals(line.get(c))) {
                        continue;
                    }
                    for (int b = 0; b < t.size; b++) {
                        for (int d = 0; d < t.size; d++) {
                            if (line.get(b).equals(line.get(d))
                                && !line.get(t.value(o, a, b)).equals(line.get(t.value(o, c, d)))) {
                                return false;
                            }
                        }
                    }
                }
            }
        }
        return true;
    }

    private static List<List<Integer>> congruences(Table t) {
        List<List<Integer>> all = new ArrayList<>();
        partitions(t.size, new ArrayList<>(), all);
        all.removeIf(line -> !isCongruence(t, line));
        all.sort(PlainCabinet::compareLines);
        return all;
    }

    private static int compareLines(List<Integer> one, List<Integer> other) {
        return Arrays.compare(one.stream().mapToInt(i -> i).toArray(), other.stream().mapToInt(i -> i).toArray());
    }

    private static int told(int[] line) {
        int number = 0;
        for (int l : line) {
            number = number * 7 + l;
        }
        return number;
    }

    private static int told(List<Integer> line) {
        return told(line.stream().mapToInt(l -> l).toArray());
    }

    private static boolean joins(List<Integer> line, int a, int b) {
        return line.get(a).equals(line.get(b));
    }

    private static int mostClasses(List<List<Integer>> all, List<int[]> pairs) {
        int best = -1;
        long most = -1;
        for (int k = 0; k < all.size(); k++) {
            List<Integer> line = all.get(k);
            long classes = line.stream().distinct().count();
            if (pairs.stream().allMatch(p -> joins(line, p[0], p[1])) && classes > most) {
                best = k;
                most = classes;
            }
        }
        return best;
    }

    int link(int drawer, int a, int b) {
        if (noDrawer(drawer)) {
            return OUTSIDE;
        }
        if (noneIn(drawer)) {
            return EMPTY;
        }
        if (out(a, drawers[drawer]) || out(b, drawers[drawer])) {
            return OUTSIDE;
        }
        return mostClasses(congruences(drawers[drawer]), List.of(new int[] {a, b}));
    }

    int congruence(int drawer, int k) {
        if (noDrawer(drawer)) {
            return OUTSIDE;
        }
        if (noneIn(drawer)) {
            return EMPTY;
        }
        List<List<Integer>> all = congruences(drawers[drawer]);
        return k == NONE ? all.size() : k < 0 || k >= all.size() ? OUTSIDE : told(all.get(k));
    }

    int bound(int drawer, int k, int l, boolean up) {
        if (noDrawer(drawer)) {
            return OUTSIDE;
        }
        if (noneIn(drawer)) {
            return EMPTY;
        }
        List<List<Integer>> all = congruences(drawers[drawer]);
        if (k < 0 || l < 0 || k >= all.size() || l >= all.size()) {
            return OUTSIDE;
        }
        List<int[]> either = new ArrayList<>();
        List<int[]> both = new ArrayList<>();
        for (int a = 0; a < drawers[drawer].size; a++) {
            for (int b = 0; b < drawers[drawer].size; b++) {
                boolean byK = joins(all.get(k), a, b);
                boolean byL = joins(all.get(l), a, b);
                if (byK || byL) {
                    either.add(new int[] {a, b});
                }
                if (byK && byL) {
                    both.add(new int[] {a, b});
                }
            }
        }
        return mostClasses(all, up ? either : both);
    }

    int quotient(int drawer, int k, int to) {
        if (noDrawer(drawer, to)) {
            return OUTSIDE;
        }
        if (noneIn(drawer)) {
            return EMPTY;
        }
        Table t = drawers[drawer];
        List<List<Integer>> all = congruences(t);
        if (k < 0 || k >= all.size()) {
            return OUTSIDE;
        }
        List<Integer> line = all.get(k);
        List<Integer> leaders = line.stream().distinct().sorted().toList();
        put(to, build(leaders.size(), t.arities, (o, at) ->
            leaders.indexOf(line.get(t.value(o, Arrays.stream(at).map(leaders::get).toArray())))));
        return leaders.size();
    }

    // ---- maps

    private static boolean isMap(Table from, Table to, int[] line) {
        for (int o = 0; o < from.arities.size(); o++) {
            for (int a = 0; a < from.size; a++) {
                for (int b = 0; b < from.size; b++) {
                    if (line[from.value(o, a, b)] != to.value(o, line[a], line[b])) {
                        return false;
                    }
                }
            }
        }
        return true;
    }

    private static List<Integer> maps(Table from, Table to, int what) {
        List<Integer> maps = new ArrayList<>();
        int lines = power(to.size, from.size);
        for (int i = 0; i < lines; i++) {
            int[] line = new int[from.size];
            int rest = i;
            for (int e = from.size - 1; e >= 0; e--) {
                line[e] = rest % to.size;
                rest /= to.size;
            }
            long images = Arrays.stream(line).distinct().count();
            boolean fitting = ((what & 1) == 0 || images == from.size) && ((what & 2) == 0 || images == to.size);
            if (fitting && isMap(from, to, line)) {
                maps.add(told(line));
            }
        }
        return maps;
    }

    private int pairRefusal(int drawer, int other) {
        if (noDrawer(drawer, other)) {
            return OUTSIDE;
        }
        if (noneIn(drawer, other)) {
            return EMPTY;
        }
        return drawers[drawer].arities.equals(drawers[other].arities) ? 0 : UNFIT;
    }

    int map(int drawer, int other, int what, int k) {
        if (pairRefusal(drawer, other) != 0) {
            return pairRefusal(drawer, other);
        }
        if (what < 0 || what > 3) {
            return OUTSIDE;
        }
        List<Integer> maps = maps(drawers[drawer], drawers[other], what);
        return k == NONE ? maps.size() : k < 0 || k >= maps.size() ? OUTSIDE : maps.get(k);
    }

    int alike(int drawer, int other) {
        if (pairRefusal(drawer, other) != 0) {
            return pairRefusal(drawer, other);
        }
        if (drawers[drawer].equals(drawers[other])) {
            return 2;
        }
        return maps(drawers[drawer], drawers[other], 3).isEmpty() ? 0 : 1;
    }

    private static void numberings(List<Integer> begun, int size, List<List<Integer>> all) {
        if (begun.size() == size) {
            all.add(new ArrayList<>(begun));
            return;
        }
        for (int e = 0; e < size; e++) {
            if (!begun.contains(e)) {
                begun.add(e);
                numberings(begun, size, all);
                begun.remove(begun.size() - 1);
            }
        }
    }

    private static Table leastForm(Table t) {
        List<List<Integer>> all = new ArrayList<>();
        numberings(new ArrayList<>(), t.size, all);
        Table best = null;
        for (List<Integer> olds : all) {
            Table image = build(t.size, t.arities, (o, at) ->
                olds.indexOf(t.value(o, Arrays.stream(at).map(olds::get).toArray())));
            if (best == null || compareLines(image.cells, best.cells) < 0) {
                best = image;
            }
        }
        return best;
    }

    int least(int drawer, int to) {
        if (noDrawer(drawer, to)) {
            return OUTSIDE;
        }
        if (noneIn(drawer)) {
            return EMPTY;
        }
        put(to, leastForm(drawers[drawer]));
        return maps(drawers[to], drawers[to], 3).size();
    }

    int product(int drawer, int other, int to) {
        if (noDrawer(drawer, other, to)) {
            return OUTSIDE;
        }
        if (pairRefusal(drawer, other) != 0) {
            return pairRefusal(drawer, other);
        }
        Table first = drawers[drawer];
        Table second = drawers[other];
        int m = second.size;
        if (first.size * m > 7) {
            return UNFIT;
        }
        put(to, build(first.size * m, first.arities, (o, at) ->
            first.value(o, Arrays.stream(at).map(e -> e / m).toArray()) * m
                + second.value(o, Arrays.stream(at).map(e -> e % m).toArray())));
        return first.size * m;
    }

    // ---- functions, models

    int function(int drawer, int k) {
        if (noDrawer(drawer)) {
            return OUTSIDE;
        }
        if (noneIn(drawer)) {
            return EMPTY;
        }
        Table t = drawers[drawer];
        TreeMap<Integer, int[]> found = new TreeMap<>();
        int[] identity = IntStream.range(0, t.size).toArray();
        found.put(told(identity), identity);
        int before = 0;
        while (before < found.size() && found.size() <= 300) {
            before = found.size();
            List<int[]> now = new ArrayList<>(found.values());
            for (int o = 0; o < t.arities.size(); o++) {
                for (int[] f : now) {
                    for (int[] g : t.arities.get(o) == 2 ? now : now.subList(0, 1)) {
                        int[] line = new int[t.size];
                        for (int e = 0; e < t.size; e++) {
                            line[e] = t.value(o, f[e], g[e]);
                        }
                        found.put(told(line), line);
                    }
                }
            }
        }
        if (found.size() > 300) {
            return MANY;
        }
        List<Integer> all = new ArrayList<>(found.keySet());
        return k == NONE ? all.size() : k < 0 || k >= all.size() ? OUTSIDE : all.get(k);
    }

    private int modelRefusal(int size, int arities, int list) {
        if (list < 0 || list > 3) {
            return OUTSIDE;
        }
        if (lists[list] == null) {
            return EMPTY;
        }
        if (size < 1 || size > 7 || aritiesOf(arities) == null) {
            return OUTSIDE;
        }
        if (!fits(lists[list], aritiesOf(arities))) {
            return UNFIT;
        }
        return tables(size, arities) > 60000 ? MANY : 0;
    }

    static double tables(int size, int arities) {
        List<Integer> list = aritiesOf(arities);
        return list == null || size < 1 || size > 7 ? 0 : Math.pow(size, cellsOf(size, list));
    }

    private List<Table> allModels(int size, int arities, int list) {
        List<Table> models = new ArrayList<>();
        List<Integer> shape = aritiesOf(arities);
        int cells = cellsOf(size, shape);
        int tables = (int) tables(size, arities);
        for (int i = 0; i < tables; i++) {
            Integer[] line = new Integer[cells];
            int rest = i;
            for (int c = cells - 1; c >= 0; c--) {
                line[c] = rest % size;
                rest /= size;
            }
            Table table = new Table(size, shape, Arrays.asList(line));
            if (lists[list].stream().allMatch(law -> breakers(law, table).isEmpty())) {
                models.add(table);
            }
        }
        return models;
    }

    private List<Table> forms(int size, int arities, int list) {
        return allModels(size, arities, list).stream().filter(t -> t.cells.equals(leastForm(t).cells)).toList();
    }

    int models(int size, int arities, int list, boolean forms) {
        if (modelRefusal(size, arities, list) != 0) {
            return modelRefusal(size, arities, list);
        }
        return forms ? forms(size, arities, list).size() : allModels(size, arities, list).size();
    }

    int model(int size, int arities, int list, int k, int to) {
        if (noDrawer(to)) {
            return OUTSIDE;
        }
        if (modelRefusal(size, arities, list) != 0) {
            return modelRefusal(size, arities, list);
        }
        List<Table> forms = forms(size, arities, list);
        if (k < 0 || k >= forms.size()) {
            return OUTSIDE;
        }
        put(to, forms.get(k));
        return maps(drawers[to], drawers[to], 3).size();
    }

    int count(int what) {
        switch (what) {
            case 0: return tape.size();
            case 1: return out.length();
            case 2: return changes.size();
            case 3: return (int) Arrays.stream(drawers).filter(d -> d != null).count();
            case 4: return (int) Arrays.stream(lists).filter(l -> l != null).count();
            default: return OUTSIDE;
        }
    }

    // ---- for the random runs: what would be too dear to compare

    int sizeOf(int drawer) {
        return noDrawer(drawer) || drawers[drawer] == null ? 0 : drawers[drawer].size;
    }

    int operationsOf(int drawer) {
        return sizeOf(drawer) == 0 ? 0 : drawers[drawer].arities.size();
    }

    /** The state as a text, for the comparison behind a run. */
    String drawerText(int drawer) {
        String kept = out;
        String text = tell(drawer) < 0 ? "" : out;
        out = kept;
        return text;
    }
}
