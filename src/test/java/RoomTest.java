import com.sun.management.ThreadMXBean;
import java.lang.management.ManagementFactory;

/** What a run makes stays small, however dear its calls: rows are made once and used again. */
public final class RoomTest {
    private static final ThreadMXBean COUNTER = (ThreadMXBean) ManagementFactory.getThreadMXBean();

    private RoomTest() {}

    public static void main(String[] args) {
        longRun();
        long before = made();
        longRun();
        atMost("bytes of 512 dear calls", 200000, made() - before);
        before = made();
        for (int i = 0; i < 512; i++) {
            new TensMill().put(0, 1, 1);
        }
        atMost("bytes of 512 new objects", 512 * 2000, made() - before);
        Bench.end();
    }

    private static long made() {
        return COUNTER.getThreadAllocatedBytes(Thread.currentThread().getId());
    }

    private static void atMost(String what, long most, long got) {
        Bench.due(what + " (" + got + ") are at most " + most, true, got <= most);
    }

    private static void longRun() {
        TensMill x = new TensMill();
        x.put(0, 2, 0);
        x.put(1, 3, 0);
        for (int i = 0; i < 51; i++) {
            int d = 2 + i % 5;
            x.ratio(7, 0, 1, 4096, i % 7);
            x.root(d, 7, 4096 - i, i % 7);
            x.whole(2, 3, d, 7);
            x.divide(d, d, 7, 4000, 0);
            x.power(4, 0, 13600);
            x.times(5, 2, 3);
            x.add(6, 7, d);
            x.ratio(5, 7, 6, 0, 0);
            x.write(7, 1);
            x.compare(6, 7);
        }
    }
}
