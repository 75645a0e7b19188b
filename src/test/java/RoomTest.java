import com.sun.management.ThreadMXBean;
import java.lang.management.ManagementFactory;

/**
 * What one object makes in 512 of its dearest calls. The room of a run has some 600,000 objects and 7.3 million fields
 * and elements; at four bytes and more an element, the bounds here leave most of it free.
 */
public final class RoomTest {
    private static final int CALLS = 500;
    private static final long MOST_BYTES = 4_000_000;
    private static final long MOST_BYTES_NEW = 10_000;

    private final Check check = new Check();
    private final ThreadMXBean threads = (ThreadMXBean) ManagementFactory.getThreadMXBean();

    public static void main(String[] args) {
        RoomTest test = new RoomTest();
        test.run("new", 0);
        test.newObjectIsSmall();
        for (int kind = 1; kind <= 7; kind++) {
            test.run("kind " + kind, kind);
        }
        test.check.end();
    }

    private long made() {
        return threads.getThreadAllocatedBytes(Thread.currentThread().getId());
    }

    private void newObjectIsSmall() {
        long before = made();
        SeedBench x = new SeedBench();
        long bytes = made() - before;
        check.due("a new object makes " + bytes + " bytes", bytes <= MOST_BYTES_NEW && x.count(0) == 1, true);
    }

    private void run(String name, int kind) {
        long before = made();
        SeedBench x = new SeedBench();
        setUp(x, kind);
        long sum = 0;
        for (int c = 0; c < CALLS; c++) {
            sum += call(x, kind, c);
        }
        long bytes = made() - before;
        System.out.println(name + ": " + bytes + " bytes");
        check.due(name + " makes " + bytes + " bytes", bytes <= MOST_BYTES && sum != Long.MIN_VALUE, true);
    }

    private static void setUp(SeedBench x, int kind) {
        if (kind == 6) {
            for (int i = 2; i < 9; i++) {
                x.ring(i % 2, 10);
            }
            for (int i = 2; i < 9; i++) {
                x.fence(0, 0, i);
                x.fence(1, 4, (4 + i) % 10);
            }
        }
        if (kind == 1 || kind == 2 || kind == 7) {
            chain(x, 5, kind == 2 ? 6 : 0, 1);
        } else if (kind == 3) {
            chain(x, 6, 6, 2);
        } else if (kind == 4 || kind == 5) {
            chain(x, 6, 0, 1);
        }
        if (kind == 7) {
            for (int i = 0; i < 12; i++) {
                x.row(12, i, i % 5);
            }
        }
    }

    private static void chain(SeedBench x, int n, int m, int last) {
        x.table(n, m);
        for (int i = 1; i < n; i++) {
            x.arrows(i - 1, i, i == n - 1 ? last : 1);
            x.arrows(i, i - 1, i == n - 1 ? -last : -1);
        }
        for (int h = 0; h < m; h++) {
            x.arrows(n + h, h % n, 1);
        }
        x.begin();
    }

    private static long call(SeedBench x, int kind, int c) {
        switch (kind) {
            case 1: case 2: case 3:
                return x.all();
            case 4:
                return x.finite();
            case 5:
                return c % 5 == 4 ? (x.keep(c % 4) ? 1 : 0) + x.same(c % 4) : x.turn(c % 7 % 6);
            case 6:
                return x.way();
            case 7:
                return x.order();
            default:
                return x.count(c % 5);
        }
    }
}
