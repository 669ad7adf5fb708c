import java.nio.file.Files;
import java.nio.file.Path;
import java.util.HashSet;
import java.util.List;
import java.util.Set;
import java.util.regex.Matcher;
import java.util.regex.Pattern;

/**
 * Those rules of ../shared/LANGUAGE.md that can be seen in the text of the class, each by its number and no narrower
 * than it is written; run in the project's folder.
 */
public final class LanguageTest {
    private static final Path SOURCE = Path.of("src/main/java/AlgebraCabinet.java");
    private static final Pattern METHOD = Pattern.compile("^ {4,8}(?:[a-z]+ )*[\\w<>\\[\\]]+ (\\w+)\\(([^)]*)\\) \\{$");
    private static final List<String> IMPORTS =
        List.of("java.util.Arrays", "java.util.ArrayList", "java.util.List", "java.util.Iterator");
    private static final List<String> LIBRARY =
        List.of("Arrays.fill", "Arrays.copyOf", "Arrays.copyOfRange", "System.arraycopy", "List.of");
    /** "some sixty lines" */
    private static final int MOST_LINES = 66;

    public static void main(String[] args) throws Exception {
        String code = code();
        words(code);
        shapes(code);
        library(code);
        methods(code);
        Due.finish();
    }

    /** The text of the class without its comments, and without what stands in texts and characters. */
    static String code() throws Exception {
        return Files.readString(SOURCE).replaceAll("\"(\\\\.|[^\"\\\\])*\"", "\"\"").replaceAll("'(\\\\.|[^'\\\\])'", "' '")
            .replaceAll("(?s)/\\*.*?\\*/", "").replaceAll("//[^\n]*", "");
    }

    private static void none(String rule, String pattern, String code) {
        Matcher matcher = Pattern.compile(pattern).matcher(code);
        boolean found = matcher.find();
        Due.isTrue("rule " + rule + (found ? ", but: " + matcher.group() : ""), !found);
    }

    private static void words(String code) {
        none("1, no package", "\\bpackage\\b", code);
        none("1, nothing protected", "\\bprotected\\b", code);
        none("4, no name that ends in Exact", "\\w+Exact\\b", code);
        none("6", "\\b(throw|throws|try|catch|finally|synchronized|assert)\\b", code);
        none("6, no hashCode", "\\bhashCode\\b", code);
        none("13", "\\b(Thread|Random|Runtime|nanoTime|currentTimeMillis|getenv|getProperty)\\b", code);
    }

    private static void shapes(String code) {
        none("2, no method reference", "::", code);
        none("2, no lambda", "(?m)^(?!\\s*(case|default)\\b).*->", code);
        none("3, two dimensions of numbers alone", "\\b[A-Z]\\w*\\[\\]\\[\\]", code);
        none("3, no three dimensions", "\\[\\]\\[\\]\\[\\]", code);
        none("5, static fields are final", "\\bstatic\\s+(?!final\\b)[\\w<>\\[\\]]+\\s+\\w+\\s*[=;,]", code);
        none("5, no static block", "\\bstatic\\s*\\{", code);
    }

    private static void library(String code) {
        Matcher imports = Pattern.compile("import ([\\w.]+);").matcher(code);
        while (imports.find()) {
            Due.isTrue("rule 4, import " + imports.group(1), IMPORTS.contains(imports.group(1)));
        }
        Set<String> own = new HashSet<>();
        Matcher classes = Pattern.compile("\\b(?:class|record|enum|interface) (\\w+)").matcher(code);
        while (classes.find()) {
            own.add(classes.group(1));
        }
        Matcher calls = Pattern.compile("\\b([A-Z]\\w*)\\.([a-z]\\w*)\\(").matcher(code);
        while (calls.find()) {
            String call = calls.group(1) + "." + calls.group(2);
            boolean numbers = List.of("Integer", "Long", "Math").contains(calls.group(1));
            Due.isTrue("rule 4, " + call, numbers || LIBRARY.contains(call) || own.contains(calls.group(1)));
        }
    }

    private static void methods(String code) {
        String[] lines = code.split("\n");
        int methods = 0;
        for (int i = 0; i < lines.length; i++) {
            Matcher method = METHOD.matcher(lines[i]);
            if (!method.matches()) {
                continue;
            }
            methods++;
            int parameters = method.group(2).isEmpty() ? 0 : method.group(2).split(",").length;
            Due.isTrue("rule 11, seven parameters: " + method.group(1), parameters <= 7);
            String end = lines[i].replaceAll("^( *).*", "$1}");
            int length = 1;
            while (i + length < lines.length && !lines[i + length].equals(end)) {
                length++;
            }
            Due.isTrue("rule 11, some sixty lines: " + method.group(1), length <= MOST_LINES);
        }
        Due.isTrue("methods are seen", methods >= 35);
    }
}
