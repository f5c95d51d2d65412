import java.lang.management.ManagementFactory;

/** All calls of a run live in one room: nothing that is called again and again may fill it. */
public final class RoomTest {
    private static final long MOST_BYTES = 4000000;
    private static final com.sun.management.ThreadMXBean THREADS =
            (com.sun.management.ThreadMXBean) ManagementFactory.getThreadMXBean();

    public static void main(String[] args) {
        // what the machine makes to load the classes does not count
        filled();
        long none = allocated();
        InvariantSearch x = new InvariantSearch();
        Check.yes("a new object stays under 60000 bytes", allocated() - none < 60000);
        Check.due("it is used", x.told(0), 0);
        for (int what = 0; what < 6; what++) {
            repeat(filled(), what);
            InvariantSearch y = filled();
            long before = allocated();
            repeat(y, what);
            long bytes = allocated() - before;
            Check.yes("the calls of kind " + what + " took " + bytes + " bytes", bytes < MOST_BYTES);
        }
        Check.end();
    }

    private static long allocated() {
        return THREADS.getCurrentThreadAllocatedBytes();
    }

    private static InvariantSearch filled() {
        InvariantSearch x = new InvariantSearch();
        Check.method(x, 0, "a = a + n; need n; pay 0; pay 0; pay 0;");
        Check.rule(x, "0 < a + 1");
        Check.rule(x, "a < 900000");
        x.actor(0, 10, 0, 3);
        for (int i = 0; i < 30; i++) {
            x.choice(0, 0, 1 << i % 20, 0);
        }
        x.row(0x35ad6b5ad6b5ad6L, 12);
        return x;
    }

    /** With those that filled it, 512 calls at most. */
    private static void repeat(InvariantSearch x, int what) {
        for (int i = 0; i < 225; i++) {
            switch (what) {
                case 0:
                    x.every(0, 12);
                    x.every(1, 12);
                    break;
                case 1:
                    x.draw(0, i, 200);
                    x.draw(0, -i, 200);
                    break;
                case 2:
                    x.breaks(0, 0);
                    x.profit(0, 0);
                    break;
                case 3:
                    x.call(0, 0, 1, 0);
                    x.call(0, 0, 2, 1);
                    break;
                case 4:
                    x.feed(0x6e656564, 0x20313b20, 0x70617920, 0x303b2020);
                    x.method(1);
                    break;
                default:
                    x.least(0, 1);
                    x.row(0, 12);
                    break;
            }
        }
    }
}
