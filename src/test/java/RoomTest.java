import com.sun.management.ThreadMXBean;
import java.lang.management.ManagementFactory;

/** The room that a run takes: what an object needs is made with it, and no call makes more. */
public final class RoomTest {
    private static final int CALLS = 512;
    private static final long MOST_BYTES_OF_OBJECT = 100_000;
    private static final long MOST_BYTES_OF_CALLS = 10_000;

    private final Checks checks = new Checks("RoomTest");
    private final ThreadMXBean threads = (ThreadMXBean) ManagementFactory.getThreadMXBean();

    public static void main(String[] args) {
        RoomTest test = new RoomTest();
        // The first run loads classes, which is no room of the object.
        test.run();
        test.run();
        test.bytes();
        test.bytes();
        long start = test.bytes();
        FlippedBlinds x = test.made();
        long made = test.bytes();
        test.dearestCalls(x);
        long called = test.bytes();
        test.checks.holds("an object takes " + (made - start) + " bytes", made - start <= MOST_BYTES_OF_OBJECT);
        test.checks.holds("its calls take " + (called - made) + " bytes", called - made <= MOST_BYTES_OF_CALLS);
        test.checks.end();
    }

    private long bytes() {
        return threads.getThreadAllocatedBytes(Thread.currentThread().getId());
    }

    private void run() {
        dearestCalls(made());
    }

    private FlippedBlinds made() {
        return new FlippedBlinds();
    }

    private void dearestCalls(FlippedBlinds x) {
        for (int letter = 1; letter <= 8; letter++) {
            x.word(letter);
        }
        for (int column = 0; column < 24; column++) {
            x.stick(0, column, column % 5, column % 2);
        }
        for (int sign = 0; sign < 60; sign++) {
            x.type("s0,0;s1,0;".charAt(sign % 10));
        }
        int[] codes = new int[9];
        for (int call = 92; call < CALLS; call++) {
            codes[call % 9] = dearCall(x, call);
        }
        checks.holds("calls were answered", codes.length == 9);
    }

    private int dearCall(FlippedBlinds x, int call) {
        switch (call % 9) {
            case 0: return x.play();
            case 1: return x.fault(0);
            case 2: return x.bestRepair(call % 8, 0, 1);
            case 3: return x.closest(0, 2);
            case 4: return x.blindOf(0, 7);
            case 5: return x.show(call % 8, call % 2);
            case 6: return x.undo();
            case 7: return x.would(call % 8, 0, 3);
            default: return call % 2 == 0 ? x.unword(7) : x.word(8);
        }
    }
}
