import com.sun.management.ThreadMXBean;
import java.lang.management.ManagementFactory;

/** What an object and its 512 calls take: all calls of one run live in one room. */
public final class RoomTest {
    private static final Due DUE = new Due("RoomTest");
    private static final long MOST_BYTES_OF_AN_OBJECT = 32_000;
    private static final long MOST_BYTES_OF_CALLS = 2_000;

    public static void main(String[] args) {
        ThreadMXBean threads = (ThreadMXBean) ManagementFactory.getThreadMXBean();
        calls(new FaultTwins());
        long start = threads.getCurrentThreadAllocatedBytes();
        FaultTwins x = new FaultTwins();
        long made = threads.getCurrentThreadAllocatedBytes();
        calls(x);
        long called = threads.getCurrentThreadAllocatedBytes();
        System.out.println("an object takes " + (made - start) + " bytes, 500 calls " + (called - made));
        DUE.holds("an object is small", made - start <= MOST_BYTES_OF_AN_OBJECT);
        DUE.holds("calls make no objects", called - made <= MOST_BYTES_OF_CALLS);
        DUE.end();
    }

    /** Some 500 calls, each kind among them. */
    private static void calls(FaultTwins x) {
        for (int i = 0; i < 20; i++) {
            x.draw(i * 37, 24);
            x.drop(0);
            x.way(9, i % 8, 0);
            x.deed(6, 1, 1);
            x.deed(6, 0, 0);
            x.sees(i % 8);
            x.would(i % 8);
            x.restarts();
            x.known(3);
            x.sight(0);
            x.all(1);
            x.all(4);
            x.apart(1);
            x.soonest(0);
            x.enough(0);
            x.fewest(0);
            x.pair(11, 1);
            x.clear();
            x.type('!');
            x.type(';');
            x.reads();
            x.back();
            x.told(0);
            x.of(0, 3);
            x.digest();
        }
        x.anew();
    }
}
