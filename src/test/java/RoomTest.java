import java.lang.management.ManagementFactory;

/**
 * All calls of a run live in one room of some 600,000 objects and 7.3 million fields and elements: a run of
 * 512 of the dearest calls must stay far below it. An element takes four bytes at least (a boolean one, but
 * there are few), and an object sixteen.
 */
public final class RoomTest {
    private static final long MOST_BYTES = 2_000_000;

    private static long allocated() {
        com.sun.management.ThreadMXBean threads =
            (com.sun.management.ThreadMXBean) ManagementFactory.getThreadMXBean();
        return threads.getThreadAllocatedBytes(Thread.currentThread().getId());
    }

    /** Every board that there is, growing ones first, and on each all that counts and follows. */
    private static long run() {
        LoopBoard bench = new LoopBoard();
        long sum = 0;
        for (int call = 1; call + 7 <= 512; call += 7) {
            int cells = call / 7 % 25;
            boolean arcs = call % 2 == 0;
            sum += bench.board(1 + cells / 5, 1 + cells % 5, arcs) ? 1 : 0;
            sum += bench.allow(0, 0, 1023 - (call & 1)) ? 1 : 0;
            sum += bench.weigh(3);
            sum += bench.having(cells / 5, cells % 5, 0);
            sum += bench.find(1, 0) ? 1 : 0;
            sum += bench.rank(true);
            sum += bench.longest();
        }
        return sum;
    }

    public static void main(String[] args) {
        long sum = run();
        long before = allocated();
        sum -= run();
        long bytes = allocated() - before;
        System.out.println("512 calls made " + bytes + " bytes of objects");
        if (bytes > MOST_BYTES || sum != 0) {
            System.out.println("due is " + MOST_BYTES + " at most, and the same answers twice: " + sum);
            System.exit(1);
        }
    }
}
