import java.lang.management.ManagementFactory;

/** The dearest calls, 512 on an object: what they make, and that they come to an end soon. */
public final class RoomTest {
    private static final int CALLS = 512;
    private static final long MOST_BYTES_MADE = 200000;

    private RoomTest() {
    }

    public static void main(String[] args) {
        com.sun.management.ThreadMXBean threads =
                (com.sun.management.ThreadMXBean) ManagementFactory.getThreadMXBean();
        long thread = Thread.currentThread().getId();
        threads.getThreadAllocatedBytes(thread);
        long ahead = threads.getThreadAllocatedBytes(thread);
        PennantLawn x = new PennantLawn();
        long made = threads.getThreadAllocatedBytes(thread) - ahead;
        Check.holds("room of an object: " + made, made < MOST_BYTES_MADE);
        Check.race(x, dearest());
        x.row(0, 0, 3);
        ahead = threads.getThreadAllocatedBytes(thread);
        long begun = System.nanoTime();
        for (int i = 0; i < CALLS; i += 8) {
            x.look(i % 5, i / 5 % 5, i % 20);
            x.ways(i % 5);
            x.fits(0);
            x.share(i % 5, i / 5 % 5, 0);
            x.rests(0, 1);
            x.chance(i % 5, 7, 0);
            x.spoils();
            x.undo();
        }
        System.out.println("512 dear calls: " + (System.nanoTime() - begun) / 1000000 + " ms");
        made = threads.getThreadAllocatedBytes(thread) - ahead;
        Check.holds("room of 512 calls: " + made, made < MOST_BYTES_MADE);
        Check.finish("RoomTest");
    }

    private static String dearest() {
        return "race steps 20 law 1 goal 60 odds 5;" + "boat at 0 needs 3;".repeat(5)
                + "watcher eyes 7 sees 0 to 4 on 2;".repeat(5) + "show 1 at 3;".repeat(5);
    }
}
