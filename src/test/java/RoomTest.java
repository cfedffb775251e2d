import com.sun.management.ThreadMXBean;
import java.lang.management.ManagementFactory;
import java.util.function.IntConsumer;

/** All calls of a run live in one room: what 512 calls of one sort make is small, of most sorts nothing. */
public final class RoomTest {
    private static final Checks C = new Checks();
    private static final ThreadMXBean THREADS = (ThreadMXBean) ManagementFactory.getThreadMXBean();
    private static final int CALLS = 512;
    /** What the machine itself may make by the way. */
    private static final long SLACK = 4096;

    private static void callAll(IntConsumer call) {
        for (int k = 0; k < CALLS; k++) {
            call.accept(k);
        }
    }

    /** All calls go ahead once, since the machine makes objects of its own where a class is first used. */
    private static long bytesOf(IntConsumer call) {
        callAll(call);
        long before = THREADS.getThreadAllocatedBytes(Thread.currentThread().getId());
        callAll(call);
        return THREADS.getThreadAllocatedBytes(Thread.currentThread().getId()) - before;
    }

    private static void atMost(String call, long bytesEach, IntConsumer asked) {
        long bytes = bytesOf(asked);
        C.holds(call + ": " + bytes + " bytes in " + CALLS + " calls", bytes <= bytesEach * CALLS + SLACK);
    }

    private static void naming(MillPaper x) {
        atMost("named", 0, k -> x.named(k % 2, 0, 0, k));
        atMost("gets", 0, k -> x.gets(k % 2, 0, 0, 0, k));
        atMost("meanNamed", 0, k -> x.meanNamed(0, 0, k));
        atMost("bestPrice", 0, k -> x.bestPrice(k % 2, k % 3));
        atMost("tells", 0, k -> x.tells(k % 2, k));
        atMost("meanChosen", 0, k -> x.meanChosen(k % 2, k % 3));
        atMost("waits", 0, k -> x.waits(60, k % 2));
        atMost("purse", 0, k -> x.purse(k % 2, k % 3));
        atMost("knowing", 0, k -> x.knowing());
        atMost("edge", 0, k -> x.edge(k % 2, 1, 2, k % 3));
    }

    private static void papers(MillPaper x) {
        atMost("has", 0, k -> x.has(States.SEALED, 0, 0, k, 99));
        atMost("pays", 0, k -> x.pays(States.SEALED, 0, 0, 0, k, 99));
        atMost("meanBid", 0, k -> x.meanBid(States.SEALED, States.BIDS, 0, 0));
        atMost("rest", 0, k -> x.rest(States.SEALED, States.BIDS, 50));
        atMost("outcome", 0, k -> x.outcome(States.NAME, k % 4));
        atMost("lots", 0, k -> x.lots(States.NAME, 50, k, 0));
        atMost("cut", 0, k -> x.cut(k % 2, 0));
        atMost("bestPaper: a PAPER for each KIND", 8 * 24, k -> x.bestPaper(States.KINDS, 100, k % 2));
    }

    private static void shelves(MillPaper x) {
        atMost("image", 0, k -> x.image());
        atMost("restore", 0, k -> x.restore());
        atMost("keep", 24, k -> x.keep(7, 1, k % 8, 1));
        atMost("row: 100 elements and what holds them", 100 * 4 + 48, k -> x.row(7, 2, 100));
        atMost("put", 0, k -> x.put(7, k % 100, k));
        atMost("element", 0, k -> x.element(7, k % 100));
        atMost("copy", 0, k -> x.copy(7, 0, 7, 1, 99));
        atMost("weight", 0, k -> x.weight(States.NAME));
    }

    public static void main(String[] args) {
        naming(States.ready());
        papers(States.ready());
        shelves(States.ready());
        MillPaper two = States.coins();
        two.keep(0, 1, 2, 0);
        atMost("rests", 0, k -> two.rests(0, 200, -1));
        atMost("a new object", 3072, k -> new MillPaper());
        C.end();
    }
}
