/** Promises 1 to 4: a new object, feed, trim, out. */
public final class TapeTest {
    public static void main(String[] args) {
        newObject();
        feedAndTrim();
        out();
        Due.finish();
    }

    private static void newObject() {
        AlgebraCabinet cabinet = new AlgebraCabinet();
        for (int what = 0; what <= 4; what++) {
            Due.due("count " + what + " of a new object", cabinet.count(what), 0);
        }
        Due.due("out(0) of a new object", cabinet.out(0), AlgebraCabinet.NONE);
        Due.due("fault() of a new object", cabinet.fault(), 0);
        Due.due("undo() of a new object", cabinet.undo(), AlgebraCabinet.NONE);
        for (int drawer = 0; drawer < 8; drawer++) {
            Due.due("about of a new drawer", cabinet.about(drawer, 0), AlgebraCabinet.EMPTY);
        }
        for (int list = 0; list < 4; list++) {
            Due.due("models of a new list", cabinet.models(1, 0, list, true), AlgebraCabinet.EMPTY);
        }
        Due.due("read of an empty tape", cabinet.read(0), -100);
    }

    private static void feedAndTrim() {
        AlgebraCabinet cabinet = new AlgebraCabinet();
        for (int i = 1; i <= 20; i++) {
            Due.due("feed " + i, cabinet.feed(i, -i, 0, -1, i), 20 * i);
        }
        Due.due("feed 21", cabinet.feed(0, 0, 0, 0, 0), AlgebraCabinet.MANY);
        Due.due("count(0) behind MANY", cabinet.count(0), 400);
        Due.due("trim(401)", cabinet.trim(401), AlgebraCabinet.OUTSIDE);
        Due.due("trim(-1)", cabinet.trim(-1), AlgebraCabinet.OUTSIDE);
        Due.due("trim least", cabinet.trim(Integer.MIN_VALUE), AlgebraCabinet.OUTSIDE);
        Due.due("count(0) behind refusals", cabinet.count(0), 400);
        Due.due("trim(400)", cabinet.trim(400), 400);
        Due.due("trim(381)", cabinet.trim(381), 381);
        Due.due("feed with room for 19", cabinet.feed(0, 0, 0, 0, 0), AlgebraCabinet.MANY);
        Due.due("trim(380)", cabinet.trim(380), 380);
        Due.due("feed with room for 20", cabinet.feed(0, 0, 0, 0, 0), 400);
        Due.due("trim(0)", cabinet.trim(0), 0);
        Due.due("trim(1) of nothing", cabinet.trim(1), AlgebraCabinet.OUTSIDE);

        // "2;u1" and "0;c0" and so on: the highest byte of each number comes first, and the bytes come behind the tape
        Due.due("feed", cabinet.feed(0x323B7531, 0x303B6330, 0x3B633100, 0, 0), 20);
        Due.due("trim", cabinet.trim(5), 5);
        Due.due("feed behind", cabinet.feed(0x3B623031, 0x31300000, 0, 0, 0), 25);
        Due.due("trim", cabinet.trim(11), 11);
        Due.due("read", cabinet.read(3), 2);
        Due.dueText("tell", Due.told(cabinet, 3), "2;u10;b0110");
        Due.due("the tape is used up", cabinet.count(0), 0);

        // bytes above 127 are kept as they are: none of them is a sign
        cabinet.feed(0xF8BDF800, 0, 0, 0, 0);
        cabinet.trim(3);
        Due.due("laws of high bytes", cabinet.laws(0), -100);
    }

    private static void out() {
        AlgebraCabinet cabinet = new AlgebraCabinet();
        cabinet.make(0, 7, 3333);
        Due.due("tell", cabinet.tell(0), 205);
        Due.due("count(1)", cabinet.count(1), 205);
        Due.due("out(0)", cabinet.out(0), '7');
        Due.due("out(1)", cabinet.out(1), ';');
        Due.due("out(204)", cabinet.out(204), '0');
        Due.due("out(205)", cabinet.out(205), AlgebraCabinet.NONE);
        Due.due("out(-1)", cabinet.out(-1), AlgebraCabinet.NONE);
        Due.due("out greatest", cabinet.out(Integer.MAX_VALUE), AlgebraCabinet.NONE);
        Due.due("out least", cabinet.out(Integer.MIN_VALUE), AlgebraCabinet.NONE);
        cabinet.make(1, 3, 0);
        Due.due("a shorter tell", cabinet.tell(1), 1);
        Due.due("out(0)", cabinet.out(0), '3');
        Due.due("out(1)", cabinet.out(1), AlgebraCabinet.NONE);
        Due.due("tell of nothing", cabinet.tell(2), AlgebraCabinet.EMPTY);
        Due.due("OUT stays", cabinet.count(1), 1);
    }
}
