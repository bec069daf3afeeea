import com.sun.management.ThreadMXBean;
import java.lang.management.ManagementFactory;

/** All calls of a run live in one room: what an object and its 512 calls make stays small. */
public final class RoomTests {
    private static final int OBJECT_BYTES = 16_000;
    // next to nothing, but more than the machine's own odds and ends
    private static final int CALLS_BYTES = 40_000;

    public static void main(String[] args) {
        ThreadMXBean threads = (ThreadMXBean) ManagementFactory.getThreadMXBean();
        if (!threads.isThreadAllocatedMemorySupported()) {
            System.out.println("this machine does not tell what is made");
            return;
        }
        dearCalls(new BreathBand());
        long before = made(threads);
        BreathBand x = new BreathBand();
        long object = made(threads) - before;
        before = made(threads);
        dearCalls(x);
        long calls = made(threads) - before;
        Due.due("an object of " + object + " bytes is small", 1, object <= OBJECT_BYTES ? 1 : 0);
        Due.due(calls + " bytes for 512 calls are few", 1, calls <= CALLS_BYTES ? 1 : 0);
        Due.end();
    }

    private static long made(ThreadMXBean threads) {
        return threads.getThreadAllocatedBytes(Thread.currentThread().getId());
    }

    /** 512 calls: a full band, sheets, and then the dearest of all. */
    private static void dearCalls(BreathBand x) {
        Edge.full(x);
        int calls = 104;
        for (int s = 0; s < 4; s++) {
            x.sheet(s, 2, 60);
            x.write(s);
            x.copy(s, 0, s, 1, 59);
            x.read(s);
            calls += 4;
        }
        while (calls < 510) {
            x.bag(1 + calls % 99);
            x.digest();
            calls += 2;
        }
    }
}
