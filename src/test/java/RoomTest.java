import java.lang.management.ManagementFactory;

/** All calls of a run live in one room: an object's 512 calls, the dearest ones among them, stay far below it. */
public final class RoomTest {
    private static final com.sun.management.ThreadMXBean THREADS =
        (com.sun.management.ThreadMXBean) ManagementFactory.getThreadMXBean();
    /** 7.3 million fields and elements, of four bytes each at least. */
    private static final long ROOM = 4 * 7_300_000L;
    /** With what prepares them some 500 calls of one object. */
    private static final int ROUNDS = 12;

    public static void main(String[] args) {
        AlgebraCabinet[] cabinets = new AlgebraCabinet[50];
        long before = bytes();
        for (int i = 0; i < cabinets.length; i++) {
            cabinets[i] = new AlgebraCabinet();
        }
        Due.isTrue("50 objects are in the room", bytes() - before < ROOM);
        AlgebraCabinet cabinet = cabinets[0];
        prepare(cabinet);
        before = bytes();
        int answers = 0;
        for (int i = 0; i < ROUNDS; i++) {
            answers += dearCalls(cabinet);
        }
        Due.isTrue("the dearest calls are in the room", bytes() - before < ROOM / 2);
        Due.isTrue("calls are not refused", answers > 0);
        Due.finish();
    }

    private static long bytes() {
        return THREADS.getCurrentThreadAllocatedBytes();
    }

    private static void prepare(AlgebraCabinet cabinet) {
        Due.laws(cabinet, 0, "a(a(x,y),z)=a(x,a(y,z));a(x,y)=a(y,x)");
        Due.read(cabinet, 0, "7;b" + "0000000".repeat(7) + ";b" + "0123456".repeat(7) + ";b" + "0123456".repeat(7));
        Due.read(cabinet, 1, "4;b" + "1230" + "2230" + "3330" + "0000");
        Due.read(cabinet, 2, "3;b012120201");
        Due.read(cabinet, 3, "2;b0110");
    }

    private static int dearCalls(AlgebraCabinet c) {
        int sum = c.least(0, 4) + c.alike(0, 4) + c.map(0, 0, 1, 100) + c.map(0, 0, 3, -1) + c.congruence(0, -1);
        sum += c.link(0, 1, 5) + c.bound(0, 3, 5, true) + c.bound(0, 3, 5, false) + c.quotient(0, 3, 5) + c.part(0, -1);
        sum += c.sub(0, 9, 5) + c.span(0, 64) + c.function(1, -1) + c.function(1, 200) + c.product(2, 3, 6);
        sum += c.models(3, 3, 0, true) + c.models(3, 3, 0, false) + c.model(3, 3, 0, 5, 7) + c.holds(2, 0) + c.fails(2, 0, 1);
        sum += c.witness(2, 0, 1) + c.traits(0, 0) + c.powers(0, 0, 3) + c.centre(0, 0) + c.tell(0) + c.undo() + c.about(0, 3);
        sum += c.make(7, 7, 3333) + c.set(7, 0, 1, 1, 1) + c.stamp(7, 0, 1, 2, 7) + c.drop(7);
        sum += c.feed(0x613D6228, 0x7829, 0, 0, 0) + c.laws(1) + c.feed(0x333B6331, 0, 0, 0, 0) + c.trim(4) + c.read(7);
        return sum;
    }
}
