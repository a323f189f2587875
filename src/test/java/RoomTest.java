import java.lang.management.ManagementFactory;
import java.lang.management.ThreadMXBean;

/** All calls of a run live in one room: the rows are made by the constructor, and no call makes more of them. */
public final class RoomTest {
    private static final int CALLS = 512;
    // What one object takes, far below the 7.3 million elements of the room.
    private static final long MOST_BYTES_OF_AN_OBJECT = 400_000;
    private static final long MOST_BYTES_OF_ALL_CALLS = 20_000;

    public static void main(String[] args) {
        ThreadMXBean bean = ManagementFactory.getThreadMXBean();
        if (!(bean instanceof com.sun.management.ThreadMXBean threads) || !threads.isThreadAllocatedMemorySupported()) {
            System.out.println("this machine does not count what a thread allocates");
            return;
        }
        long thread = Thread.currentThread().getId();
        play(new OxbowReaches());
        long start = threads.getThreadAllocatedBytes(thread);
        OxbowReaches x = new OxbowReaches();
        long made = threads.getThreadAllocatedBytes(thread);
        play(x);
        long played = threads.getThreadAllocatedBytes(thread);
        if (made - start > MOST_BYTES_OF_AN_OBJECT) {
            System.out.println("an object takes " + (made - start) + " bytes");
            System.exit(1);
        }
        if (played - made > MOST_BYTES_OF_ALL_CALLS) {
            System.out.println(CALLS + " calls make " + (played - made) + " bytes");
            System.exit(1);
        }
    }

    private static void play(OxbowReaches x) {
        for (int call = 0; call < CALLS; call++) {
            switch (call % 16) {
                case 0 -> x.put('0' << 16 | ',' << 8 | '2');
                case 1 -> x.put(':');
                case 2 -> x.put((long) 'r' << 40 | (long) '3' << 32 | 'u' << 24 | 'r' << 16 | 'd' << 8 | 'r');
                case 3 -> x.read();
                case 4 -> x.taken(3, 4);
                case 5 -> x.nextCut(1);
                case 6 -> x.ifPassed(50, 2);
                case 7 -> x.cut(0);
                case 8 -> x.pass(9);
                case 9 -> x.dike(call % 20, 11, true);
                case 10 -> x.flood(x.count(5), true);
                case 11 -> x.save(call % 2);
                case 12 -> x.restore(0);
                case 13 -> x.undo();
                case 14 -> x.bend(0, 4);
                default -> x.count(call % 18);
            }
        }
    }
}
