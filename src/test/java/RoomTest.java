import java.lang.management.ManagementFactory;

/** The dearest calls make no objects; a whole run of 512 calls makes few. */
public final class RoomTest {
    private static final com.sun.management.ThreadMXBean THREADS =
            (com.sun.management.ThreadMXBean) ManagementFactory.getThreadMXBean();

    public static void main(String[] args) {
        goAndPlan();
        alterAgainAndAgain();
        Due.end();
    }

    private static long made() {
        return THREADS.getThreadAllocatedBytes(Thread.currentThread().getId());
    }

    private static void goAndPlan() {
        CupByCup x = Due.full(3, 30);
        x.order(0, 6, 0);
        x.order(1, 5, 1);
        long first = made();
        long before = made();
        for (int i = 0; i < 126; i++) {
            x.go(1);
            x.best(0);
            x.sum();
            x.count(2);
        }
        long after = made();
        // Asking makes something itself; the calls between may make nothing beside that.
        Due.yes("bytes made by go, best, sum, count: " + (after - before),
                after - before <= Math.max(512, 4 * (before - first)));
    }

    private static void alterAgainAndAgain() {
        CupByCup x = Due.full(3, 30);
        long before = made();
        for (int i = 0; i < 507; i++) {
            x.alter(0, Due.PLAIN, Due.PLAIN_WET);
        }
        long after = made();
        Due.yes("bytes made by 507 calls of alter: " + (after - before), after - before <= 507 * 64);
    }
}
