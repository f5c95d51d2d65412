import java.util.Arrays;
import java.util.function.Predicate;

/** What is drawn from an x on, reckoned with longs. */
final class Drawing {
    private static final long TWO_32 = 1L << 32;

    private long x;

    Drawing(int x) {
        this.x = Math.floorMod((long) x, TWO_32);
    }

    int number() {
        // below 2^63, as both factors are below 2^32 and one of them below 2^31
        x = (x * 1103515245L + 12345L) % TWO_32;
        return (int) (x / 65536);
    }

    /** The ROW that is drawn next. */
    int[] row(int choices, int[]... kept) {
        int first = number();
        int[] begin = kept.length > 0 && first % 2 == 1 ? kept[first / 2 % kept.length] : new int[0];
        int length = Math.min(12, begin.length + 1 + number() % 6);
        int[] row = Arrays.copyOf(begin, length);
        for (int i = begin.length; i < length; i++) {
            row[i] = number() % choices;
        }
        return row;
    }

    /** The lowest x, from 0, of which something is so. */
    static int seed(Predicate<Drawing> isSo) {
        for (int x = 0; x < 10000000; x++) {
            if (isSo.test(new Drawing(x))) {
                return x;
            }
        }
        Check.yes("there is such an x", false);
        return 0;
    }
}
