import com.sun.management.ThreadMXBean;
import java.lang.management.ManagementFactory;

/**
 * All calls of one run live in one room of some 600,000 objects and 7.3 million fields and elements. What is made
 * here is counted in bytes, of which every element and field takes at least one, and every object at least 16.
 */
public final class RoomTest {
    private static final ThreadMXBean COUNTER = (ThreadMXBean) ManagementFactory.getThreadMXBean();
    private static int wrong = 0;

    private static long made() {
        return COUNTER.getThreadAllocatedBytes(Thread.currentThread().getId());
    }

    private static void most(String what, long before, long limit) {
        long bytes = made() - before;
        if (bytes > limit) {
            wrong++;
            System.out.println(what + " made " + bytes + " bytes, at most " + limit + " are due");
        }
    }

    /** The dearest calls, 512 of them on one object. */
    private static int dearest(ChainVotes x) {
        int sum = 0;
        x.state(5);
        for (int i = 0; i < 4; i++) x.mode(i, 2);
        x.mode(3, 0);
        for (int i = 0; i < 101; i++) {
            sum += x.soon() + x.without(i % 4) + x.would(i % 4, 1) + x.calm(1 + i % 20);
            sum += x.image(i % 3 == 0) ? 1 : 0;
        }
        return sum;
    }

    /** Every call that only asks, and plans. */
    private static int others(ChainVotes x) {
        int sum = 0;
        for (int i = 0; i < 20; i++) {
            x.feed(0x63616c6d, 0x20313b64, 0x726f7020, 0x35303b20, 0x20202020);
            sum += x.plan() + x.run(24) + x.ledger(0, true, 2) + x.ledger(1, false, 3) + x.audit(i % 5) + x.best(i % 4) + x.look(i)
                + x.chain(0, i % 7) + x.two(0, 0, 1) + x.path(1, 0) + x.since(0, i % 7) + x.storm(40, 3) + x.node(0, i % 13)
                + x.message(0, 0) + x.evidence(0, 0) + x.event(0, 0) + x.markers(0, 0) + x.pending(0, 0);
        }
        return sum;
    }

    public static void main(String[] args) {
        dearest(new ChainVotes());
        others(new ChainVotes());
        long before = made();
        ChainVotes x = new ChainVotes();
        most("the constructor", before, 40000);
        before = made();
        dearest(x);
        most("512 of the dearest calls", before, 100000);
        before = made();
        others(x);
        most("the other calls", before, 1000);
        // 7.3 million, were each of 512 calls of a run a constructor.
        before = made();
        for (int i = 0; i < 512; i++) new ChainVotes();
        most("512 constructors", before, 4L * 7300000);
        System.out.println(wrong == 0 ? "the room is enough" : "the room is not enough");
        if (wrong != 0) System.exit(1);
    }
}
