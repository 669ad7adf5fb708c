import java.nio.file.Files;
import java.nio.file.Path;
import java.util.List;

/** The example in README.md: each call stands there, with the answer that it gives; run in the project's folder. */
public final class ReadmeTest {
    private static List<String> lines;
    private static int calls;

    public static void main(String[] args) throws Exception {
        lines = Files.readAllLines(Path.of("README.md"));
        AlgebraCabinet cabinet = new AlgebraCabinet();
        call("make(0, 3, 3)", cabinet.make(0, 3, 3));
        call("set(0, 0, 1, 2, 2)", cabinet.set(0, 0, 1, 2, 2));
        call("feed(0x61287829, 0x3D780000, 0, 0, 0)", cabinet.feed(0x61287829, 0x3D780000, 0, 0, 0));
        call("trim(6)", cabinet.trim(6));
        call("laws(0)", cabinet.laws(0));
        call("holds(0, 0)", cabinet.holds(0, 0));
        call("models(4, 2, 0, true)", cabinet.models(4, 2, 0, true));
        call("model(4, 2, 0, 0, 1)", cabinet.model(4, 2, 0, 0, 1));
        call("holds(1, 0)", cabinet.holds(1, 0));
        call("tell(1)", cabinet.tell(1));
        call("out(2)", cabinet.out(2));
        Due.dueText("OUT", Due.told(cabinet, 1), "4;u0123");
        call("undo()", cabinet.undo());
        Due.due("drawer 1 is empty again", cabinet.about(1, 0), AlgebraCabinet.EMPTY);
        Due.due("calls in README.md", (int) lines.stream().filter(line -> line.startsWith("cabinet.")).count(), calls);
        Due.finish();
    }

    private static void call(String call, int answer) {
        calls++;
        String begin = "cabinet." + call + ";";
        boolean told = lines.stream().anyMatch(line -> line.startsWith(begin) && line.contains("// " + answer + ":"));
        Due.isTrue("README.md has " + begin + " // " + answer, told);
    }
}
