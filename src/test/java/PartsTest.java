/** Promises 22 to 24: span, part, sub. */
public final class PartsTest {
    private static final int EMPTY = AlgebraCabinet.EMPTY, OUTSIDE = AlgebraCabinet.OUTSIDE, NONE = AlgebraCabinet.NONE;

    public static void main(String[] args) {
        span();
        part();
        sub();
        Due.finish();
    }

    private static void span() {
        AlgebraCabinet cabinet = new AlgebraCabinet();
        Due.due("span OUTSIDE", cabinet.span(8, 0), OUTSIDE);
        Due.due("span EMPTY", cabinet.span(0, -1), EMPTY);
        Due.read(cabinet, 0, "7;u1234560");
        Due.due("span of nothing", cabinet.span(0, 0), 0);
        Due.due("span of one", cabinet.span(0, 8), 127);
        Due.read(cabinet, 1, "7;u1234566;c2");
        Due.due("span of nothing has what arity 0 gives", cabinet.span(1, 0), 4 + 8 + 16 + 32 + 64);
        Due.due("span of 64", cabinet.span(1, 64), 124);
        Due.due("span of 2", cabinet.span(1, 2), 126);
        Due.read(cabinet, 2, "3;b001100222");
        Due.due("span by two", cabinet.span(2, 3), 3);
        Due.due("span by rows and columns", cabinet.span(2, 5), 7);
        Due.due("span of all", cabinet.span(2, 7), 7);
        Due.due("span of no element", cabinet.span(2, 8), OUTSIDE);
        Due.due("span below 0", cabinet.span(2, -1), OUTSIDE);
        Due.due("span least", cabinet.span(2, Integer.MIN_VALUE), OUTSIDE);
        cabinet.make(3, 4, 0);
        for (int bits = 0; bits < 16; bits++) {
            Due.due("span without operations", cabinet.span(3, bits), bits);
        }
        Due.due("span of no element", cabinet.span(3, 16), OUTSIDE);
        Due.due("span is no change", cabinet.count(2), 4);
    }

    private static void part() {
        AlgebraCabinet cabinet = new AlgebraCabinet();
        Due.due("part OUTSIDE", cabinet.part(-1, 0), OUTSIDE);
        Due.due("part EMPTY", cabinet.part(0, -7), EMPTY);
        cabinet.make(0, 7, 0);
        Due.due("parts without operations", cabinet.part(0, NONE), 127);
        for (int k = 0; k < 127; k++) {
            Due.due("part " + k, cabinet.part(0, k), k + 1);
        }
        Due.due("part 127", cabinet.part(0, 127), OUTSIDE);
        Due.due("part -2", cabinet.part(0, -2), OUTSIDE);
        Due.due("part least", cabinet.part(0, Integer.MIN_VALUE), OUTSIDE);
        Due.due("part greatest", cabinet.part(0, Integer.MAX_VALUE), OUTSIDE);
        Due.read(cabinet, 1, "4;u1032;c2");
        Due.due("parts with an arity 0", cabinet.part(1, NONE), 2);
        Due.due("part 0", cabinet.part(1, 0), 12);
        Due.due("part 1", cabinet.part(1, 1), 15);
        Due.due("part 2", cabinet.part(1, 2), OUTSIDE);
        Due.read(cabinet, 2, "3;b001100222");
        int[] parts = {1, 3, 4, 7};
        Due.due("parts", cabinet.part(2, NONE), parts.length);
        for (int k = 0; k < parts.length; k++) {
            Due.due("part " + k, cabinet.part(2, k), parts[k]);
        }
    }

    private static void sub() {
        AlgebraCabinet cabinet = new AlgebraCabinet();
        Due.due("sub OUTSIDE", cabinet.sub(8, 0, 0), OUTSIDE);
        Due.due("sub OUTSIDE of to, ahead of EMPTY", cabinet.sub(0, 0, 8), OUTSIDE);
        Due.due("sub OUTSIDE of to", cabinet.sub(0, 0, -1), OUTSIDE);
        Due.due("sub EMPTY", cabinet.sub(0, 0, 1), EMPTY);
        // 3 is in each part by arity 0, and 1 by arity 1; with 2 comes 0
        Due.read(cabinet, 0, "4;b" + "0000" + "0301" + "0000" + "0103" + ";u0321;c3");
        Due.due("parts", cabinet.part(0, NONE), 3);
        Due.due("part 0", cabinet.part(0, 0), 10);
        Due.due("sub", cabinet.sub(0, 0, 1), 2);
        Due.dueText("sub", Due.told(cabinet, 1), "2;b1001;u10;c1");
        Due.due("part 1", cabinet.part(0, 1), 11);
        Due.due("sub", cabinet.sub(0, 1, 2), 3);
        Due.dueText("sub", Due.told(cabinet, 2), "3;b000021012;u021;c2");
        Due.due("sub of all", cabinet.sub(0, 2, 3), 4);
        Due.due("sub of all is the same", cabinet.alike(0, 3), 2);
        Due.due("changes", cabinet.count(2), 4);
        Due.due("sub OUTSIDE", cabinet.sub(0, 3, 3), OUTSIDE);
        Due.due("sub NONE", cabinet.sub(0, NONE, 3), OUTSIDE);
        Due.due("refused subs are no changes", cabinet.count(2), 4);
        Due.due("sub to itself", cabinet.sub(0, 0, 0), 2);
        Due.dueText("sub to itself", Due.told(cabinet, 0), "2;b1001;u10;c1");
        cabinet.make(4, 7, 0);
        Due.due("sub without operations", cabinet.sub(4, 0b1010100, 5), Integer.bitCount(0b1010101));
        Due.dueText("sub without operations", Due.told(cabinet, 5), "4");
    }
}
