import com.sun.management.ThreadMXBean;
import java.lang.management.ManagementFactory;
import java.nio.charset.StandardCharsets;

/** Nothing is made but in the constructor: all calls of a run live in one room. */
public final class RoomTest {
    private static final Check CHECK = new Check("RoomTest");
    private static final int CALLS = 512;
    /** What the machine itself may need on the way. */
    private static final long SLACK = 64 * 1024;

    public static void main(String[] args) {
        ThreadMXBean room = (ThreadMXBean) ManagementFactory.getThreadMXBean();
        new HeapVersions().plan();
        long before = room.getCurrentThreadAllocatedBytes();
        HeapVersions x = new HeapVersions();
        long made = room.getCurrentThreadAllocatedBytes();
        CHECK.due("bytes of a new object, beyond 150,000", Math.max(0, made - before - 150_000), 0);
        byte[] text = ("plan law 0 hands 2;new;put 0 5 for 1;join 1 1;join 2 2;join 3 3;join 4 4;join 5 4;take 6;take 7;")
                .getBytes(StandardCharsets.ISO_8859_1);
        int[][] fives = Check.fives(text);
        int length = text.length;
        run(x, fives, length);
        long warm = room.getCurrentThreadAllocatedBytes();
        run(x, fives, length);
        long after = room.getCurrentThreadAllocatedBytes();
        CHECK.due("bytes made by 512 calls", Math.max(0, after - warm - SLACK), 0);
        CHECK.finish();
    }

    private static void run(HeapVersions x, int[][] fives, int length) {
        x.end(0);
        for (int[] five : fives) {
            x.feed(five[0], five[1], five[2], five[3], five[4]);
        }
        x.end(length);
        x.plan();
        CHECK.due("count(2)", x.count(2), 9);
        for (int i = 0; i < CALLS / 16; i++) {
            int v = x.takes(x.count(2) - 1);
            x.drain(6);
            x.dearest(7);
            x.parts(6);
            x.own(v);
            x.shared(v, 6);
            x.without(v, 1);
            x.left(v, 1);
            x.done(6, 2);
            x.hands(6);
            x.lean();
            x.same(6, 7);
            x.puts(7, 3, 3);
            x.joins(2, 1);
            x.undo();
            x.undo();
        }
    }
}
