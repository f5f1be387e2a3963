import com.sun.management.ThreadMXBean;
import java.lang.management.ManagementFactory;

/** All calls of a run live in one room: an object is made small enough, and calls make nothing at all. */
public final class RoomTest {
    private static final long MOST_MADE = 600000, MOST_BY_CALLS = 20000;

    private static long made() {
        ThreadMXBean threads = (ThreadMXBean) ManagementFactory.getThreadMXBean();
        return threads.getCurrentThreadAllocatedBytes();
    }

    private static void write(SkyClocks x, String text) {
        x.wipe();
        for (int i = 0; i < text.length(); i++) {
            x.write(1, text.charAt(i));
        }
    }

    /** The dearest calls, some 500 of them. */
    private static long dearCalls(SkyClocks x) {
        long sum = 0;
        write(x, "p100000;c4,500,-500,500,-500;");
        for (int s = 0; s < 4; s++) {
            x.model(s);
            for (int k = 0; k < 12; k++) {
                x.arrival(s, 5000 + k * 200, 100, k % 3, 0);
            }
        }
        for (int i = 0; i < 30; i++) {
            sum += x.ways(i % 4, 100000, 102000 + i) + x.way(0, 3) + x.sure(3) + x.fit(0, 4) + x.left(1000000, 5)
                    + x.look(1000000, 50, 20, 5) + x.slip(0) + x.falseShare(1) + x.hum(0, 1) + x.shuffled(0, 1)
                    + x.loop(0, 1, 2) + x.moved(3) + x.alarm(2) + x.fault() + x.model(i % 4);
        }
        return sum;
    }

    public static void main(String[] args) {
        Due due = new Due();
        long sum = dearCalls(new SkyClocks());
        long before = made();
        SkyClocks x = new SkyClocks();
        long between = made();
        sum -= dearCalls(x);
        long after = made();
        due.is("the same calls twice", sum, 0);
        due.is("bytes made for an object, too many of them: " + (between - before), between - before > MOST_MADE ? 1 : 0, 0);
        due.is("bytes made by calls, too many of them: " + (after - between), after - between > MOST_BY_CALLS ? 1 : 0, 0);
        due.end();
    }
}
