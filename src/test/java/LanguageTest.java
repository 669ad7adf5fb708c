import java.nio.file.Files;
import java.nio.file.Path;
import java.util.regex.Matcher;
import java.util.regex.Pattern;

/** Those rules of ../shared/LANGUAGE.md that can be seen in the text of the class; run in the project's folder. */
public final class LanguageTest {
    private static final Path SOURCE = Path.of("src/main/java/AlgebraCabinet.java");
    private static final Pattern METHOD =
        Pattern.compile("^ {4,8}(?:public |private )?(?:static )?[A-Za-z\\[\\]]+ (\\w+)\\(([^)]*)\\) \\{$");

    public static void main(String[] args) throws Exception {
        String text = Files.readString(SOURCE);
        String code = text.replaceAll("(?s)/\\*.*?\\*/", "").replaceAll("//[^\n]*", "").replaceAll("'.'|'\\\\.'", "' '");
        words(code);
        library(code);
        newObjects(code);
        methods(code);
        Due.finish();
    }

    private static void words(String code) {
        String[] words = {"throw", "throws", "try", "catch", "finally", "synchronized", "assert", "volatile", "native",
            "protected", "package", "yield", "var", "String", "Object", "System\\.out", "hashCode", "toString", "\\w+Exact"};
        for (String word : words) {
            Due.isTrue("no " + word, !Pattern.compile("\\b" + word + "\\b").matcher(code).find());
        }
        Due.isTrue("no lambda", !code.contains("->"));
        Due.isTrue("no method reference", !code.contains("::"));
        Due.isTrue("no text", !code.contains("\""));
        Due.isTrue("no array of arrays of objects", !code.contains("[][]"));
        Due.isTrue("no static state", !Pattern.compile("\\bstatic (?!final |boolean \\w+\\(|int \\w+\\()").matcher(code).find());
    }

    private static void library(String code) {
        Matcher imports = Pattern.compile("import ([\\w.]+);").matcher(code);
        while (imports.find()) {
            Due.dueText("import", imports.group(1), "java.util.Arrays");
        }
        Matcher calls = Pattern.compile("\\b([A-Z]\\w*)\\.([a-z]\\w*)\\(").matcher(code);
        while (calls.find()) {
            String call = calls.group(1) + "." + calls.group(2);
            Due.isTrue("in the library: " + call, "Arrays.fill System.arraycopy Math.max Math.min Integer.bitCount".contains(call));
        }
    }

    /** All that a run makes is made by constructors and initialisers, so no call makes anything. */
    private static void newObjects(String code) {
        boolean constructing = false;
        for (String line : code.split("\n")) {
            if (line.matches(" {4,8}(public )?[A-Z]\\w*\\(.*\\) \\{")) {
                constructing = true;
            } else if (METHOD.matcher(line).matches()) {
                constructing = false;
            }
            boolean initialiser = line.matches(" {4,8}(private )?(final )?[A-Z\\w\\[\\]]+ \\w+ = new .*;");
            initialiser |= line.matches(" {4,8}(private )?(final )?int\\[\\] \\w+ = new .*;");
            Due.isTrue("made once: " + line, !line.matches(".*\\bnew\\b.*") || constructing || initialiser);
        }
    }

    private static void methods(String code) {
        String[] lines = code.split("\n");
        int methods = 0;
        for (int i = 0; i < lines.length; i++) {
            Matcher method = METHOD.matcher(lines[i]);
            if (!method.matches()) {
                continue;
            }
            methods++;
            int parameters = method.group(2).isEmpty() ? 0 : method.group(2).split(",").length;
            Due.isTrue("seven parameters: " + method.group(1), parameters <= 7);
            String end = lines[i].replaceAll("^( *).*", "$1}");
            int length = 1;
            while (i + length < lines.length && !lines[i + length].equals(end)) {
                length++;
            }
            Due.isTrue("some sixty lines: " + method.group(1), length <= 60);
        }
        Due.isTrue("methods are seen", methods > 100);
    }
}
