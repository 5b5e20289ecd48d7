import java.lang.management.ManagementFactory;
import java.util.Random;

/** All calls live in one room: an object is small, and runs of 512 calls on it make (next to) nothing. */
public final class RoomTest {
    private static final String SYSTEM = "s1;s2;s4;s3;s0;m0 0 1;m1 0 2;m0 1 3;m1 2 4;m0 3 0;m1 4 0;m0 0 0;m1 3 3;m0 4 4;m1 1 2;";

    public static void main(String[] args) {
        com.sun.management.ThreadMXBean threads = (com.sun.management.ThreadMXBean) ManagementFactory.getThreadMXBean();
        long self = Thread.currentThread().getId();
        Random random = new Random(3);
        run(Check.made(SYSTEM, "ugkafbc"), random);
        long before = threads.getThreadAllocatedBytes(self);
        LassoPaths x = new LassoPaths();
        long made = threads.getThreadAllocatedBytes(self) - before;
        Check.that("an object takes " + made + " bytes", made < 40000);
        Check.system(x, SYSTEM);
        Check.formula(x, "ugkafbc");
        before = threads.getThreadAllocatedBytes(self);
        run(x, random);
        long taken = threads.getThreadAllocatedBytes(self) - before;
        Check.that("512 calls take " + taken + " bytes", taken < 4000);
        Check.end();
    }

    private static void run(LassoPaths x, Random random) {
        for (int i = 0; i < 64; i++) {
            x.labels(i % 5, random.nextInt(8));
            x.breaks(i & 1, i % 3);
            x.where(i & 1);
            x.shows(i & 7);
            x.judged(0);
            x.stores(0);
            x.against(1, i & 3);
            x.undo();
        }
    }
}
