import java.lang.management.ManagementFactory;

/** All calls of a run live in one room: nothing that is called again and again may fill it. */
public final class RoomTest {
    private static final long MOST_BYTES = 4000000;
    private static final com.sun.management.ThreadMXBean THREADS =
            (com.sun.management.ThreadMXBean) ManagementFactory.getThreadMXBean();

    public static void main(String[] args) {
        // what the machine makes to load the classes does not count
        fill(new InvariantSearch());
        long none = allocated();
        InvariantSearch x = new InvariantSearch();
        Check.due("a new object stays under 60000 bytes", allocated() - none < 60000 ? 1 : 0, 1);
        fill(x);
        for (int what = 0; what < 6; what++) {
            repeat(x, what);
            long before = allocated();
            repeat(x, what);
            long bytes = allocated() - before;
            Check.due("512 calls of kind " + what + " took " + bytes + " bytes", bytes < MOST_BYTES ? 1 : 0, 1);
        }
        Check.end();
    }

    private static long allocated() {
        return THREADS.getCurrentThreadAllocatedBytes();
    }

    private static void fill(InvariantSearch x) {
        Check.method(x, 0, "a = a + n; need n; pay 0; pay 0; pay 0;");
        Check.rule(x, "0 < a + 1");
        Check.rule(x, "a < 900000");
        x.actor(0, 10, 0, 3);
        for (int i = 0; i < 30; i++) {
            x.choice(0, 0, 1 << i % 20, 0);
        }
        x.row(-1L & 0x35ad6b5ad6b5ad6L, 12);
    }

    private static void repeat(InvariantSearch x, int what) {
        for (int i = 0; i < 512; i++) {
            switch (what) {
                case 0:
                    x.every(0, 12);
                    break;
                case 1:
                    x.draw(0, i, 200);
                    break;
                case 2:
                    x.breaks(0, 0);
                    x.profit(0, 0);
                    break;
                case 3:
                    x.call(0, 0, 1, 0);
                    break;
                case 4:
                    x.feed(0x6e656564, 0x20313b20, 0x70617920, 0x303b2020);
                    x.method(1);
                    break;
                default:
                    x.least(0, 1);
                    x.row(0, 12);
                    break;
            }
        }
    }
}
