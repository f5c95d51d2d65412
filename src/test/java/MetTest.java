/** Promises 21 to 23: met, kept, told, and how ROWS are DRAWN and KEPT. */
public final class MetTest {
    private static final int BAD = InvariantSearch.BAD;
    private static final int NONE = InvariantSearch.NONE;

    public static void main(String[] args) {
        met();
        onlyDrawnOnesMeet();
        toldAnew();
        kept();
        keptAtMost();
        drawnRows();
        told();
        Check.end();
    }

    private static void met() {
        InvariantSearch x = new InvariantSearch();
        Check.due("not told", x.met(0, 0), BAD);
        Check.method(x, 0, "if n { need n - 1; } if n - 2 { pay 0; }");
        Check.method(x, 1, "a = 1; need 0;");
        Check.method(x, 2, "need 1 / 0;");
        Check.rule(x, "1");
        Check.rule(x, "0");
        x.actor(1, 0, 1, 0);
        x.choice(0, 0, 1, 0);
        Check.due("draw", x.draw(1, 1, 1), 0);
        int[] want = {1, 0, 0, 1, 0, 0};
        leavesDue(x, want);
        Check.due("a call back is not met by that one", x.met(1, 1), 0);
        x.fresh();
        x.choice(1, 0, 0, 0);
        Check.due("draw", x.draw(1, 1, 1), 0);
        leavesDue(x, new int[] {0, 1, 0, 0, 1, 0});
        Check.due("one that was called back, and fails", x.met(1, 1), 1);
        Check.due("met(1, 0)", x.met(1, 0), 0);
        x.fresh();
        x.choice(0, 0, 2, 0);
        x.choice(0, 2, 0, 0);
        Check.due("draw", x.draw(0, 1, 20), NONE);
        leavesDue(x, new int[] {1, 0, 1, 0, 0, 1});
        Check.due("E that can't be reckoned meets none", x.met(2, 0), 0);
        Check.due("E that can't be reckoned meets none", x.met(2, 1), 0);
        Check.due("met(0, 6)", x.met(0, 6), BAD);
        Check.due("met(0, -1)", x.met(0, -1), BAD);
        Check.due("met(-1, 0)", x.met(-1, 0), BAD);
        Check.due("met(6, 0)", x.met(6, 0), BAD);
        Check.due("met(3, 0)", x.met(3, 0), BAD);
        Check.due("met(0, 33)", x.met(0, 33), BAD);
    }

    private static void leavesDue(InvariantSearch x, int[] want) {
        for (int l = 0; l < want.length; l++) {
            Check.due("met(0, " + l + ")", x.met(0, l), want[l]);
        }
    }

    private static void onlyDrawnOnesMeet() {
        InvariantSearch x = new InvariantSearch();
        Check.method(x, 0, "if a { b = 1; } a = 1;");
        Check.rule(x, "b = 0");
        x.choice(0, 0, 0, 0);
        x.call(0, 0, 0, 0);
        x.call(0, 0, 0, 0);
        x.every(0, 5);
        x.row(0, 3);
        x.least(1, 0);
        x.breaks(1, 0);
        x.profit(1, 0);
        x.holds(0);
        Check.due("met(0, 0)", x.met(0, 0), 0);
        Check.due("met(0, 1)", x.met(0, 1), 0);
        Check.due("kept", x.told(4), 0);
        // LEAST does calls of its own: they meet none either
        InvariantSearch y = new InvariantSearch();
        Check.method(y, 0, "a = 1;");
        Check.method(y, 1, "if !a { c = 1; } b = a;");
        Check.rule(y, "b = 0");
        y.choice(0, 0, 0, 0);
        y.choice(0, 1, 0, 0);
        y.row(0 | 1 << 5, 2);
        Check.due("least", y.least(0, 0), 1);
        Check.due("met(1, 0)", y.met(1, 0), 0);
        Check.due("met(1, 1)", y.met(1, 1), 0);
        for (int seed = 0; seed < 15; seed++) {
            y.fresh();
            y.choice(0, 0, 0, 0);
            y.choice(0, 1, 0, 0);
            int row = y.draw(0, seed, 1);
            if (row >= 0 && y.kept(0, 0) == 0) {
                Check.due("met(1, 0) with 0 first, seed " + seed, y.met(1, 0), 0);
            }
        }
    }

    private static void toldAnew() {
        InvariantSearch x = new InvariantSearch();
        Check.method(x, 0, "need 1;");
        Check.method(x, 1, "need 0;");
        Check.rule(x, "1");
        x.choice(0, 0, 0, 0);
        x.choice(0, 1, 0, 0);
        x.draw(0, 3, 30);
        Check.due("met(0, 0)", x.met(0, 0), 1);
        Check.due("met(1, 1)", x.met(1, 1), 1);
        int kept = x.told(4);
        Check.due("a fault", Check.method(x, 0, "need 1"), -16);
        Check.due("met(0, 0) still", x.met(0, 0), 1);
        Check.method(x, 0, "need 1;");
        Check.due("met(0, 0) no more", x.met(0, 0), 0);
        Check.due("met(1, 1) still", x.met(1, 1), 1);
        Check.due("kept ones stay", x.told(4), kept);
        x.draw(0, 3, 30);
        Check.due("met(0, 0) again", x.met(0, 0), 1);
        Check.due("one more is kept", x.told(4), kept + 1);
    }

    private static void kept() {
        InvariantSearch x = new InvariantSearch();
        Check.method(x, 0, "need 1; a = a + 1;");
        Check.rule(x, "a < 2");
        Check.rule(x, "1");
        x.choice(0, 0, 0, 0);
        // seed 2: see numbers(); the first is for KEPT ones, the second for how many
        int more = 1 + numbers(2, 2) % 6;
        Check.due("draw", x.draw(0, 2, 1), more >= 2 ? 0 : NONE);
        Check.due("one is kept", x.told(4), 1);
        Check.due("as far as it was done", x.kept(0, -1), Math.min(more, 2));
        Check.due("kept(0, 0)", x.kept(0, 0), 0);
        Check.due("kept(0, 2)", x.kept(0, 2), BAD);
        Check.due("kept(0, -2)", x.kept(0, -2), BAD);
        Check.due("kept(1, -1)", x.kept(1, -1), BAD);
        Check.due("kept(-1, -1)", x.kept(-1, -1), BAD);
        x.draw(1, 9, 100);
        Check.due("nothing new, none kept", x.told(4), 1);
    }

    private static void keptAtMost() {
        InvariantSearch x = new InvariantSearch();
        Check.method(x, 0, "need n = 0;");
        Check.rule(x, "0");
        x.choice(0, 0, 0, 0);
        for (int i = 1; i <= 10; i++) {
            int row = x.draw(0, i, 1);
            Check.due("kept behind turn " + i, x.told(4), Math.min(i, 8));
            Check.due("met in turn " + i, x.met(0, 0), 1);
            Check.due("a row", row, i - 1);
            Check.method(x, 0, "need n = 0;");
        }
    }

    /** Rows predicted number by number; a RULE that never breaks, so all calls are done. */
    private static void drawnRows() {
        InvariantSearch x = new InvariantSearch();
        Check.method(x, 0, "need n;");
        Check.rule(x, "1");
        for (int i = 0; i < 7; i++) {
            x.choice(0, 0, 1, 0);
        }
        int[][] keptRows = new int[8][];
        int count = 0;
        int seed = 4711;
        for (int turn = 0; turn < 8; turn++) {
            int[] row = new int[12];
            int length = 0;
            int at = 1;
            int r = numbers(seed, at++);
            if (count > 0 && r % 2 == 1) {
                int[] from = keptRows[r / 2 % count];
                System.arraycopy(from, 0, row, 0, from.length);
                length = from.length;
            }
            int more = 1 + numbers(seed, at++) % 6;
            for (int i = 0; i < more && length < 12; i++) {
                row[length++] = numbers(seed, at++) % 7;
            }
            Check.method(x, 0, "need n;");
            Check.due("draw", x.draw(0, seed, 1), NONE);
            keptRows[count++] = java.util.Arrays.copyOf(row, length);
            Check.due("length of kept " + turn, x.kept(turn, -1), length);
            for (int i = 0; i < length; i++) {
                Check.due("kept(" + turn + ", " + i + ")", x.kept(turn, i), row[i]);
            }
            seed = seed * 31 + 17;
        }
    }

    /** The r drawn as the i-th one from a seed on. */
    private static int numbers(int seed, int i) {
        int x = seed;
        for (int turn = 0; turn < i; turn++) {
            x = x * 1103515245 + 12345;
        }
        return x >>> 16;
    }

    private static void told() {
        InvariantSearch x = new InvariantSearch();
        Check.feed(x, "a = 1; b = 2;");
        Check.due("bytes", x.told(0), 13);
        x.cut(13);
        Check.rule(x, "1");
        Check.rule(x, "0");
        Check.due("RULES", x.told(1), 2);
        for (int k = 0; k < 6; k++) {
            Check.method(x, k, Check.repeat("need 1;", k) + (k > 2 ? "if a { if b { } }" : "pay 0;"));
            Check.due("LEAVES of METHOD " + k, x.told(5 + k), 2 * k + (k > 2 ? 4 : 0));
        }
        Check.due("twelve statements", Check.method(x, 5, Check.repeat("need 1;", 12)), 12);
        Check.due("24 LEAVES", x.told(10), 24);
        x.choice(0, 5, 0, 0);
        x.draw(1, 1, 1);
        Check.due("the last LEAF but one", x.met(5, 22), 1);
        Check.due("the last LEAF", x.met(5, 23), 0);
        x.choice(0, 5, 0, 0);
        x.row(0, 2);
        Check.due("CHOICES", x.told(2), 2);
        Check.due("ROWS", x.told(3), 2);
        Check.due("KEPT", x.told(4), 1);
        Check.due("told(-1)", x.told(-1), BAD);
        Check.due("told(11)", x.told(11), BAD);
        Check.due("told(min)", x.told(Integer.MIN_VALUE), BAD);
        Check.due("told(max)", x.told(Integer.MAX_VALUE), BAD);
    }
}
