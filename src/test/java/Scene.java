import java.util.function.Consumer;
import java.util.function.ToIntFunction;

/**
 * A cabinet that has something of everything, for calls that are refused: all that can be asked behind such a call is
 * compared with what the same cabinet tells without it. Drawer 4 and list 2 hold nothing, the tape is a good text, OUT
 * has a text, the latest text that was read had a fault, and more changes were made than are kept.
 */
final class Scene {
    /** Of one signature are 0 and 1, and 2 and 5; in drawer 5 there are more than 300 functions. */
    private static final String[] DRAWERS = {"3;b012120201;u021;c0", "2;b0110;u01;c0", "4;b0000011101220123", "7", "",
        "5;b1234022340333404444000000", "1;c0;c0;c0;c0", "2;u10"};
    /** List 0 fits drawers 0 and 1 alone, list 1 fits all, list 3 fits 0, 1, 2 and 5. */
    private static final String[] LISTS = {"a(a(x,y),z)=a(x,a(y,z));a(x,b(x))=c;b(x)=x", "x=y", "", "a(x,y)=a(y,x)"};
    static final String TAPE = "2;u11";
    private static final int FAULT = 2;
    /** More than there ever are, so that the last answer is NONE. */
    private static final int UNDOS = 18;

    private static final String UNTOUCHED = allAnswers(made());
    private static final String WITHOUT_TAPE = allAnswers(madeWithoutTape());

    private Scene() {
    }

    static AlgebraCabinet made() {
        AlgebraCabinet cabinet = new AlgebraCabinet();
        for (int size = 1; size <= 6; size++) {
            cabinet.make(4, size, 0);
        }
        cabinet.drop(4);
        for (int drawer = 0; drawer < DRAWERS.length; drawer++) {
            if (!DRAWERS[drawer].isEmpty()) {
                Due.read(cabinet, drawer, DRAWERS[drawer]);
            }
        }
        for (int i = 0; i < 6; i++) {
            cabinet.set(7, 0, 0, 0, (i + 1) / 2 % 2);
        }
        for (int list = 0; list < LISTS.length; list++) {
            if (!LISTS[list].isEmpty()) {
                Due.laws(cabinet, list, LISTS[list]);
            }
        }
        Due.laws(cabinet, 2, "a=a(x)");
        cabinet.tell(1);
        Due.type(cabinet, TAPE);
        return cabinet;
    }

    private static AlgebraCabinet madeWithoutTape() {
        AlgebraCabinet cabinet = made();
        cabinet.trim(0);
        return cabinet;
    }

    /** The call answers so, and changes nothing. */
    static void refused(String name, ToIntFunction<AlgebraCabinet> call, int want) {
        AlgebraCabinet cabinet = made();
        Due.due(name, call.applyAsInt(cabinet), want);
        Due.dueText("behind " + name + " all", allAnswers(cabinet), UNTOUCHED);
    }

    interface NumberedCall {
        int on(AlgebraCabinet cabinet, int number);
    }

    /** The same of each of some numbers. */
    static void refusedOf(String name, int[] numbers, NumberedCall call, int want) {
        for (int number : numbers) {
            refused(name + " of " + number, cabinet -> call.on(cabinet, number), want);
        }
    }

    /** The call answers so, and changes nothing but the tape, which it uses up. */
    static void refusedBehindTape(String name, ToIntFunction<AlgebraCabinet> call, int want) {
        AlgebraCabinet cabinet = made();
        Due.due(name, call.applyAsInt(cabinet), want);
        Due.dueText("behind " + name + " all", allAnswers(cabinet), WITHOUT_TAPE);
    }

    /** The text's fault is told, the tape is used up, and nothing else is changed. */
    static void faulty(String text, ToIntFunction<AlgebraCabinet> call, int place, int fault) {
        AlgebraCabinet cabinet = made();
        cabinet.trim(0);
        Due.type(cabinet, text);
        Due.due("the text " + text, call.applyAsInt(cabinet), -100 - place);
        String want = WITHOUT_TAPE.replace("fault " + FAULT, "fault " + fault);
        Due.dueText("behind the text " + text + " all", allAnswers(cabinet), want);
    }

    /** A call that is no change and is not refused answers so, and changes nothing that undo() could take back. */
    static void noChange(String name, Consumer<AlgebraCabinet> call) {
        AlgebraCabinet cabinet = made();
        call.accept(cabinet);
        cabinet.trim(0);
        StringBuilder got = new StringBuilder();
        tellDrawers(cabinet, got);
        takeAllBack(cabinet, got);
        AlgebraCabinet twin = madeWithoutTape();
        StringBuilder want = new StringBuilder();
        tellDrawers(twin, want);
        takeAllBack(twin, want);
        Due.dueText("behind " + name + " all drawers", got.toString(), want.toString());
    }

    /** Asks for whatever leaves the cabinet as it is first, then uses up the tape, OUT and the changes. */
    private static String allAnswers(AlgebraCabinet cabinet) {
        StringBuilder answers = new StringBuilder("counts");
        for (int what = 0; what < 5; what++) {
            answers.append(' ').append(cabinet.count(what));
        }
        answers.append(" fault ").append(cabinet.fault()).append(" OUT ");
        for (int i = 0; i <= DRAWERS[1].length(); i++) {
            answers.append(' ').append(cabinet.out(i));
        }
        answers.append(" lists");
        for (int list = 0; list < 4; list++) {
            for (int drawer = 0; drawer < 8; drawer++) {
                answers.append(' ').append(cabinet.holds(drawer, list));
            }
            answers.append(' ').append(cabinet.models(2, 123, list, false));
        }
        tellDrawers(cabinet, answers);
        answers.append(" tape ").append(cabinet.read(4)).append(' ').append(Due.told(cabinet, 4));
        takeAllBack(cabinet, answers);
        return answers.toString();
    }

    private static void tellDrawers(AlgebraCabinet cabinet, StringBuilder answers) {
        answers.append(" drawers");
        for (int drawer = 0; drawer < 8; drawer++) {
            answers.append(' ').append(Due.told(cabinet, drawer));
        }
    }

    private static void takeAllBack(AlgebraCabinet cabinet, StringBuilder answers) {
        answers.append(" undone");
        for (int i = 0; i < UNDOS; i++) {
            int drawer = cabinet.undo();
            answers.append(' ').append(drawer).append(' ').append(Due.told(cabinet, drawer));
        }
    }
}
