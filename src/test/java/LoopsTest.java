import java.util.ArrayList;
import java.util.HashSet;
import java.util.List;
import java.util.Set;
import java.util.regex.Matcher;
import java.util.regex.Pattern;

/** Rules 8 and 9 of ../shared/LANGUAGE.md, by which methods call which; run in the project's folder. */
public final class LoopsTest {
    private static final Pattern CLASS = Pattern.compile("^ {0,4}(?:[a-z]+ )*class (\\w+) \\{$");
    private static final Pattern METHOD = Pattern.compile("^ {4,8}((?:[a-z]+ )*)[\\w\\[\\]]+ (\\w+)\\(([^)]*)\\) \\{$");
    private static final Pattern OWN_CALL = Pattern.compile("(?<![.\\w])([a-z]\\w*)\\(");
    private static final Pattern LOOP = Pattern.compile("^( *)(?:for|while) \\((.*)\\) \\{$");
    /** A name alone that a counter is held against. */
    private static final Pattern BOUND = Pattern.compile("<=? ([a-z]\\w*)(?![\\w.(\\[])");

    private record Method(String owner, String words, String name, String parameters, String body) {
        boolean has(String word) {
            return words.contains(word + " ");
        }
    }

    private static final List<Method> METHODS = new ArrayList<>();

    public static void main(String[] args) throws Exception {
        gather(LanguageTest.code().split("\n"));
        Due.isTrue("methods are seen", METHODS.size() > 100);
        int recursive = 0;
        int loops = 0;
        for (Method method : METHODS) {
            recursive += recursion(method) ? 1 : 0;
            loops += loops(method);
        }
        Due.isTrue("recursion is seen", recursive > 0);
        Due.isTrue("loops are seen", loops > 80);
        Due.finish();
    }

    private static void gather(String[] lines) {
        String owner = "";
        for (int i = 0; i < lines.length; i++) {
            Matcher type = CLASS.matcher(lines[i]);
            owner = type.matches() ? type.group(1) : owner;
            Matcher method = METHOD.matcher(lines[i]);
            if (method.matches()) {
                String body = block(lines, i);
                METHODS.add(new Method(owner, method.group(1), method.group(2), method.group(3), body));
            }
        }
    }

    /** The lines behind a line that opens a block, as far as its end. */
    private static String block(String[] lines, int first) {
        String end = lines[first].replaceAll("^( *).*", "$1}");
        StringBuilder body = new StringBuilder();
        for (int i = first + 1; i < lines.length && !lines[i].startsWith(end); i++) {
            body.append(lines[i]).append('\n');
        }
        return body.toString();
    }

    /** What a piece of a class calls of the same class, and what these call, and so on. */
    private static Set<Method> reached(String owner, String piece, Set<Method> known) {
        Matcher call = OWN_CALL.matcher(piece);
        while (call.find()) {
            for (Method method : METHODS) {
                boolean called = method.owner.equals(owner) && method.name.equals(call.group(1));
                if (called && known.add(method)) {
                    reached(owner, method.body, known);
                }
            }
        }
        return known;
    }

    /** Rule 8: a private static method that calls itself, private methods that call one another, a depth as an argument. */
    private static boolean recursion(Method method) {
        if (!reached(method.owner, method.body, new HashSet<>()).contains(method)) {
            return false;
        }
        String name = method.owner + "." + method.name;
        boolean itself = Pattern.compile("(?<![.\\w])" + method.name + "\\(").matcher(method.body).find();
        Due.isTrue("rule 8, private: " + name, method.has("private"));
        Due.isTrue("rule 8, what calls itself is static: " + name, !itself || method.has("static"));
        Due.isTrue("rule 8, carries its depth: " + name, method.parameters.contains("int "));
        return true;
    }

    /** Rule 9: a bound that grows while the loop goes on is none, so another one stands beside it. */
    private static int loops(Method method) {
        String[] lines = method.body.split("\n");
        int loops = 0;
        for (int i = 0; i < lines.length; i++) {
            Matcher loop = LOOP.matcher(lines[i]);
            if (!loop.matches()) {
                continue;
            }
            loops++;
            String piece = block(lines, i);
            Set<Method> called = reached(method.owner, piece, new HashSet<>());
            boolean constant = Pattern.compile("<=? [A-Z_]+\\b").matcher(loop.group(2)).find();
            Matcher bound = BOUND.matcher(loop.group(2));
            while (bound.find()) {
                String name = bound.group(1);
                boolean grows = changes(piece, name) || called.stream().anyMatch(m -> changesField(m, name));
                Due.isTrue("rule 9, in " + method.owner + "." + method.name + ": " + lines[i].trim(), constant || !grows);
            }
        }
        return loops;
    }

    private static boolean changes(String piece, String name) {
        return Pattern.compile("(?<![.\\w])" + name + "(\\+\\+| \\+?= )").matcher(piece).find();
    }

    /** A variable of its own that has the same name does not count. */
    private static boolean changesField(Method method, String name) {
        boolean own = Pattern.compile("\\bint " + name + "\\b").matcher(method.parameters + method.body).find();
        return !own && changes(method.body, name);
    }
}
