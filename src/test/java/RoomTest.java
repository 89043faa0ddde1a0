import java.lang.management.ManagementFactory;

/**
 * What an object and 512 dear calls make: all of it is counted against one
 * room of some 600,000 objects and 7.3 million fields and elements.
 */
public final class RoomTest {
    private static final com.sun.management.ThreadMXBean BEAN =
        (com.sun.management.ThreadMXBean) ManagementFactory.getThreadMXBean();

    public static void main(String[] args) {
        Check.promise(0);
        program().digest();
        long before = made();
        LoopLoom x = program();
        long built = made() - before;
        before = made();
        for (int k = 0; k < 15; k++) ask(x, k);
        long asked = made() - before;
        // A long is eight bytes: 100,000 elements in all at most.
        Check.due("bytes that an object takes, " + built + ", are above 400000", built > 400000 ? 1 : 0, 0);
        // Twenty kept ORDERS of some 1350 ints each are all that calls may make.
        Check.due("bytes that calls take, " + asked + ", are above 120000", asked > 120000 ? 1 : 0, 0);
        before = made();
        for (int k = 0; k < 15; k++) ask(x, k);
        long again = made() - before;
        Check.due("bytes that calls take again, " + again + ", are above 1000", again > 1000 ? 1 : 0, 0);
        Check.end();
    }

    private static long made() {
        return BEAN.getThreadAllocatedBytes(Thread.currentThread().getId());
    }

    /** 400 VISITS that TOUCH one place thrice. */
    private static LoopLoom program() {
        LoopLoom x = new LoopLoom();
        int s = Check.sum(x, 0, 19);
        x.array(3, 20);
        for (int i = 0; i < 20; i++) x.row(0, i, 20);
        x.loop(-9, 0, s, false);
        x.loop(0, 0, s, false);
        x.act(1, 1, 0);
        for (int which = 0; which < 3; which++) x.aim(2, which, 0, 0, 0);
        return x;
    }

    private static void ask(LoopLoom x, int k) {
        x.swap(0, 1);
        x.back(0);
        x.shift(2, 0, 1);
        x.size(0, k % 7);
        x.carried(0);
        x.distance(2, 2, 0, true);
        x.free(0);
        x.allowed();
        x.why(0);
        x.run(true);
        x.fetched(16, 1);
        x.best(0, 16, 1);
        x.lines();
        x.written(0, 9);
        x.digest();
    }
}
