import java.lang.management.ManagementFactory;

/** All calls of a run live in one room: after the constructor no call makes anything but exceptions. */
public final class RoomTest {
    private static final com.sun.management.ThreadMXBean THREADS =
            (com.sun.management.ThreadMXBean) ManagementFactory.getThreadMXBean();
    private static final String TABLE = "a 0{01};b 12;c ??;d 31;e {23}0;f 01;g 3?;";

    public static void main(String[] args) {
        // The first time classes are loaded and counters made, which is not the program's doing.
        bytesOfRun(new ShortTrees());
        long bytes = bytesOfRun(new ShortTrees());
        Check.due("bytes made by 512 calls stay under 4096 (they are " + bytes + ")", bytes < 4096, true);
        Check.end();
    }

    private static long bytesOfRun(ShortTrees x) {
        long before = THREADS.getCurrentThreadAllocatedBytes();
        for (int i = 0; i < TABLE.length(); i++) {
            x.type(TABLE.charAt(i));
        }
        x.table();
        for (int i = TABLE.length() + 1; i < 512; i += 11) {
            everyCall(x, i);
        }
        return THREADS.getCurrentThreadAllocatedBytes() - before;
    }

    private static void everyCall(ShortTrees x, int i) {
        x.weigh(0, 1 + i % 9);
        x.search();
        x.best(0);
        x.share(6);
        x.common(0.5f);
        x.write(i);
        x.written(3);
        x.distance(i, 944 - i);
        x.consistency(i);
        x.retention(i);
        x.changes(i, 1);
    }
}
