/** Promises 11 to 20: choice, fresh, every, states, draw, row, least, at, breaks, profit. */
public final class RowsTest {
    private static final int BAD = InvariantSearch.BAD;
    private static final int NONE = InvariantSearch.NONE;
    private static final int FULL = InvariantSearch.FULL;
    private static final int MILLION = 1000000;

    public static void main(String[] args) {
        choice();
        fresh();
        every();
        everyEdges();
        tooManyStates();
        draw();
        row();
        least();
        at();
        breaks();
        profit();
        fullAheadOfNone();
        Check.end();
    }

    /** METHOD 0 adds n to a; METHOD 1 needs a to be n, and sets b; RULES: b = 0, a < 5, 1, 0. */
    private static InvariantSearch adder() {
        InvariantSearch x = new InvariantSearch();
        Check.method(x, 0, "a = a + n;");
        Check.method(x, 1, "need a = n; b = b + 1;");
        Check.rule(x, "b = 0");
        Check.rule(x, "a < 5");
        Check.rule(x, "1");
        Check.rule(x, "0");
        return x;
    }

    private static void choice() {
        InvariantSearch x = adder();
        Check.due("lowest", x.choice(0, 0, -MILLION, 0), 0);
        Check.due("highest", x.choice(3, 5, MILLION, MILLION), 1);
        Check.due("BAD", x.choice(4, 0, 0, 0), BAD);
        Check.due("the same one again", x.choice(0, 0, -MILLION, 0), 2);
        for (int i = 3; i < 30; i++) {
            Check.due("choice " + i, x.choice(0, 0, i, 0), i);
        }
        Check.due("FULL", x.choice(0, 0, 0, 0), FULL);
        Check.due("BAD ahead of FULL", x.choice(0, 0, 0, -1), BAD);
        Check.due("told(2)", x.told(2), 30);
        Check.due("the last one", x.row(29, 1), 0);
        Check.due("what it does", x.breaks(0, 1), 0);
        Check.due("the first one", x.row(0, 1), 1);
        Check.due("what it does", x.breaks(1, 1), NONE);
    }

    private static void fresh() {
        InvariantSearch x = adder();
        Check.method(x, 2, "need n; if a { b = 1; }");
        x.actor(1, 5, -1, 0);
        x.choice(0, 2, 1, 0);
        x.choice(0, 0, 1, 0);
        x.choice(0, 2, 0, 0);
        x.call(0, 0, 3, 0);
        Check.due("a row", x.row(0, 1), 0);
        Check.due("a draw", x.draw(2, 1, 50), NONE);
        Check.due("every", x.every(1, 3), 1);
        int states = x.states();
        Check.due("leaves were met", x.met(2, 0), 1);
        Check.due("some are kept", x.told(4) > 0 ? 1 : 0, 1);
        Check.due("fresh", x.fresh(), 3);
        Check.due("choices", x.told(2), 0);
        Check.due("rows", x.told(3), 0);
        Check.due("kept", x.told(4), 0);
        Check.due("at(0, -1)", x.at(0, -1), BAD);
        Check.due("kept(0, -1)", x.kept(0, -1), BAD);
        for (int l = 0; l < 4; l++) {
            Check.due("leaf " + l, x.met(2, l), 0);
        }
        Check.due("row(0, 1)", x.row(0, 1), BAD);
        Check.due("draw without choices", x.draw(2, 1, 1), BAD);
        Check.due("methods stay", x.told(7), 4);
        Check.due("rules stay", x.told(1), 4);
        Check.due("the state stays", x.state(0), 3);
        Check.due("states() stays", x.states(), states);
        Check.due("choices are numbered anew", x.choice(0, 0, 9, 0), 0);
        Check.due("rows are numbered anew", x.row(0, 1), 0);
        Check.due("the new choice is done", x.breaks(0, 1), 0);
        Check.due("fresh", x.fresh(), 1);
        Check.due("fresh", x.fresh(), 0);
    }

    private static void every() {
        InvariantSearch x = adder();
        x.choice(0, 0, 1, 0);
        x.choice(0, 0, 2, 0);
        x.choice(0, 1, 4, 0);
        Check.due("no row of 2 calls", x.every(0, 2), 1);
        Check.due("0, 1, 2 are gone to", x.states(), 3);
        Check.due("a row of 3 calls", x.every(0, 3), -10);
        Check.rowDue(x, 0, 1, 1, 2);
        Check.due("0, 1, 2, 3, 4 are gone to", x.states(), 5);
        Check.due("more calls don't matter", x.every(0, 12), -11);
        Check.rowDue(x, 1, 1, 1, 2);
        Check.due("0 .. 6 but those not come to yet", x.states(), 7);
        Check.due("the first in order", x.every(1, 12), -12);
        Check.rowDue(x, 2, 0, 1, 1);
        Check.due("told(3)", x.told(3), 3);
        Check.due("a rule that holds", x.every(2, 4), 1);
        Check.due("0 .. 6, and 4 with b = 1", x.states(), 8);
        Check.due("no new row", x.told(3), 3);
        Check.due("the state that is told is not touched", x.state(0), 0);
        Check.due("no calls were done there", x.start(), 0);
    }

    private static void everyEdges() {
        InvariantSearch x = adder();
        Check.due("without choices", x.every(3, 12), 1);
        Check.due("THE START only", x.states(), 1);
        x.choice(0, 1, 4, 0);
        Check.due("a call that fails, too", x.every(3, 1), -10);
        Check.rowDue(x, 0, 0);
        Check.due("states", x.states(), 1);
        Check.due("calls that fail lead nowhere", x.every(2, 12), 1);
        Check.due("states", x.states(), 1);
        x.choice(0, 0, 1, 0);
        Check.due("12 calls", x.every(2, 12), 1);
        int seen = x.states();
        Check.due("every(-1, 1)", x.every(-1, 1), BAD);
        Check.due("every(4, 1)", x.every(4, 1), BAD);
        Check.due("every(0, 0)", x.every(0, 0), BAD);
        Check.due("every(0, 13)", x.every(0, 13), BAD);
        Check.due("refused ones are none", x.states(), seen);
        Check.method(x, 2, "need b; b = 0; q = 9;");
        Check.method(x, 1, "b = 1; pay 0;");
        x.fresh();
        x.actor(1, 5, 2, 0);
        x.choice(1, 1, 0, 5);
        Check.due("calls back within every", x.every(0, 12), 1);
        Check.due("q and MONEY are of the state", x.states(), 2);
    }

    private static void tooManyStates() {
        InvariantSearch x = adder();
        for (int i = 0; i < 20; i++) {
            x.choice(0, 0, 1 << i, 0);
        }
        // 0; 20 powers of two; sums of two of them, of which 19 are powers again
        Check.due("all of two calls", x.every(2, 3), 1);
        Check.due("states", x.states(), 1 + 20 + 210 - 19);
        Check.due("three calls are too many", x.every(2, 4), NONE);
        Check.due("states", x.states(), 401);
        Check.due("no row", x.told(3), 0);
        Check.due("what breaks is found earlier", x.every(1, 12), -10);
        Check.rowDue(x, 0, 3);
        InvariantSearch z = counter(400);
        Check.due("400 states are few enough", z.every(0, 12), 1);
        Check.due("states", z.states(), 400);
        z = counter(401);
        Check.due("401 are not", z.every(0, 12), NONE);
        Check.due("states", z.states(), 401);
    }

    /** Just so many STATES can be come to, in few calls. */
    private static InvariantSearch counter(int states) {
        InvariantSearch x = new InvariantSearch();
        Check.method(x, 0, "a = a + n; need a < " + states + ";");
        Check.rule(x, "a < " + states);
        for (int i = 0; i < 30; i++) {
            x.choice(0, 0, 1 + i * 3, 0);
        }
        return x;
    }

    private static void draw() {
        InvariantSearch x = adder();
        x.choice(0, 0, 1, 0);
        x.choice(0, 0, 2, 0);
        x.choice(0, 1, 4, 0);
        Check.due("draw(-1, 0, 1)", x.draw(-1, 0, 1), BAD);
        Check.due("draw(4, 0, 1)", x.draw(4, 0, 1), BAD);
        Check.due("draw(0, 0, 0)", x.draw(0, 0, 0), BAD);
        Check.due("draw(0, 0, 201)", x.draw(0, 0, 201), BAD);
        for (int seed : new int[] {0, 1, -1, 77, 123456789, Integer.MIN_VALUE, Integer.MAX_VALUE}) {
            int row = x.draw(3, seed, 1);
            int r = third(seed);
            Check.due("the row of seed " + seed, x.at(row, -1), 1);
            Check.due("its call, seed " + seed, x.at(row, 0), x.told(4) > 0 && kept(seed) ? x.kept(0, 0) : r % 3);
        }
        int rows = x.told(3);
        Check.due("none breaks it", x.draw(2, 5, 200), NONE);
        Check.due("no new row", x.told(3), rows);
        int row = x.draw(0, 5, 200);
        Check.due("a new row", row, rows);
        Check.due("it breaks the rule", x.breaks(row, 0), x.at(row, -1) - 1);
        Check.due("it is least", x.at(row, -1) <= 5 ? 1 : 0, 1);
        Check.due("the state that is told is not touched", x.start(), 0);
        howMany();
    }

    /** Just so many rows are drawn, and one goes on from the x behind the other. */
    private static void howMany() {
        for (int seed = 0; seed < 30; seed++) {
            InvariantSearch x = adder();
            for (int i = 0; i < 9; i++) {
                x.choice(0, 0, i == 8 ? 9 : 0, 0);
            }
            int first = firstWithLast(seed);
            if (first > 0) {
                Check.due("one too few, seed " + seed, x.draw(1, seed, first), NONE);
            }
            Check.due("enough, seed " + seed, x.draw(1, seed, first + 1), 0);
            Check.rowDue(x, 0, 8);
        }
    }

    /** Which of the rows drawn from a seed is the first with CHOICE 8 of 9; no LEAVES, so none is KEPT. */
    private static int firstWithLast(int seed) {
        int x = seed;
        for (int row = 0; row < 200; row++) {
            x = x * 1103515245 + 12345;
            x = x * 1103515245 + 12345;
            boolean has = false;
            for (int more = 1 + (x >>> 16) % 6; more > 0; more--) {
                x = x * 1103515245 + 12345;
                has |= (x >>> 16) % 9 == 8;
            }
            if (has) {
                return row;
            }
        }
        return 200;
    }

    private static boolean kept(int seed) {
        return ((seed * 1103515245 + 12345) >>> 16) % 2 == 1;
    }

    private static int third(int seed) {
        int x = seed;
        for (int i = 0; i < 3; i++) {
            x = x * 1103515245 + 12345;
        }
        return x >>> 16;
    }

    private static void row() {
        InvariantSearch x = adder();
        Check.due("without choices", x.row(0, 1), BAD);
        for (int i = 0; i < 30; i++) {
            x.choice(0, 0, i, 0);
        }
        Check.due("n 0", x.row(0, 0), BAD);
        Check.due("n 13", x.row(0, 13), BAD);
        Check.due("n -1", x.row(0, -1), BAD);
        Check.due("choice 30", x.row(30, 1), BAD);
        Check.due("choice 31 at the end", x.row(Check.word(0, 0, 31), 3), BAD);
        Check.due("what is behind does not matter", x.row(Check.word(1, 29, 31), 2), 0);
        Check.rowDue(x, 0, 1, 29);
        int[] twelve = {29, 0, 5, 17, 28, 3, 9, 11, 29, 1, 2, 27};
        Check.due("twelve", x.row(Check.word(twelve), 12), 1);
        Check.rowDue(x, 1, twelve);
        Check.due("the highest bits don't matter", x.row(Check.word(twelve) | 15L << 60, 12), 2);
        Check.rowDue(x, 2, twelve);
        Check.due("-1L", x.row(-1L, 1), BAD);
        for (int i = 3; i < 20; i++) {
            Check.due("row " + i, x.row(7, 1), i);
        }
        Check.due("FULL", x.row(7, 1), FULL);
        Check.due("BAD ahead of FULL", x.row(31, 1), BAD);
        Check.due("told(3)", x.told(3), 20);
    }

    private static void least() {
        InvariantSearch x = adder();
        x.choice(0, 0, 1, 0);
        x.choice(0, 0, 2, 0);
        x.choice(0, 1, 4, 0);
        x.choice(0, 0, 0, 0);
        x.choice(0, 0, -1, 0);
        Check.due("row", x.row(Check.word(3, 0, 1, 3, 0, 2, 2, 3), 8), 0);
        Check.due("least", x.least(0, 0), 1);
        Check.rowDue(x, 1, 0, 1, 0, 2);
        Check.rowDue(x, 0, 3, 0, 1, 3, 0, 2, 2, 3);
        Check.due("row", x.row(Check.word(0, 0, 0, 0, 2, 1, 1, 2), 8), 2);
        Check.due("what stands last goes first", x.least(2, 0), 3);
        Check.rowDue(x, 3, 0, 0, 0, 0, 2);
        // a = 1, 0, 2, 4: without the pair it breaks as well, but no one of the two may go alone
        Check.due("row", x.row(Check.word(0, 4, 1, 1, 2), 5), 4);
        Check.due("one at a time", x.least(4, 0), 5);
        Check.rowDue(x, 5, 0, 4, 1, 1, 2);
        // 1 + 2 + 2: the 1 goes in the first turn only if 2 + 2 is enough, which it is not
        Check.due("row", x.row(Check.word(0, 1, 1, 1), 4), 6);
        Check.due("the first that may go from the last", x.least(6, 1), 7);
        Check.rowDue(x, 7, 0, 1, 1);
        Check.due("NONE", x.least(0, 2), NONE);
        Check.due("a rule that never holds", x.least(0, 3), 8);
        Check.rowDue(x, 8, 3);
        Check.due("least(-1, 0)", x.least(-1, 0), BAD);
        Check.due("least(9, 0)", x.least(9, 0), BAD);
        Check.due("least(0, -1)", x.least(0, -1), BAD);
        Check.due("least(0, 4)", x.least(0, 4), BAD);
        Check.due("twelve calls", x.row(Check.word(3, 3, 3, 1, 3, 3, 1, 3, 3, 3, 3, 2), 12), 9);
        Check.due("breaks at the twelfth", x.breaks(9, 0), 11);
        Check.due("least", x.least(9, 0), 10);
        Check.rowDue(x, 10, 1, 1, 2);
        Check.due("twelve of which five are needed", x.row(Check.word(0, 0, 0, 0, 0, 4, 4, 4, 4, 0, 0, 0), 12), 11);
        Check.due("breaks at the fifth", x.breaks(11, 1), 4);
        Check.due("least", x.least(11, 1), 12);
        Check.rowDue(x, 12, 0, 0, 0, 0, 0);
        secondTurn();
    }

    /** A call that can go only when one ahead of it has gone. */
    private static void secondTurn() {
        InvariantSearch x = new InvariantSearch();
        Check.method(x, 0, "a = a + 1;");
        Check.method(x, 1, "if a { b = 1; } if !a { b = 1; c = 1; }");
        Check.method(x, 2, "need b; need (c = 1) | d; e = 1;");
        Check.method(x, 3, "d = 1;");
        Check.rule(x, "e = 0");
        for (int k = 0; k < 4; k++) {
            x.choice(0, k, 0, 0);
        }
        x.row(Check.word(0, 3, 1, 2), 4);
        Check.due("least", x.least(0, 0), 1);
        // from the last: 1 must stay, 3 must stay while 0 is there; 0 goes; then 3 goes
        Check.rowDue(x, 1, 1, 2);
    }

    private static void at() {
        InvariantSearch x = adder();
        x.choice(0, 0, 1, 0);
        x.choice(0, 0, 2, 0);
        x.row(Check.word(1, 0, 1), 3);
        Check.due("at(0, -1)", x.at(0, -1), 3);
        Check.due("at(0, 0)", x.at(0, 0), 1);
        Check.due("at(0, 1)", x.at(0, 1), 0);
        Check.due("at(0, 2)", x.at(0, 2), 1);
        Check.due("at(0, 3)", x.at(0, 3), BAD);
        Check.due("at(0, -2)", x.at(0, -2), BAD);
        Check.due("at(1, 0)", x.at(1, 0), BAD);
        Check.due("at(-1, -1)", x.at(-1, -1), BAD);
        Check.due("at(max, max)", x.at(Integer.MAX_VALUE, Integer.MAX_VALUE), BAD);
    }

    private static void breaks() {
        InvariantSearch x = adder();
        x.choice(0, 0, 1, 0);
        x.choice(0, 0, 2, 0);
        x.choice(0, 1, 4, 0);
        x.row(Check.word(1, 1, 0, 2, 1), 5);
        Check.due("a < 5", x.breaks(0, 1), 2);
        Check.due("b = 0", x.breaks(0, 0), NONE);
        Check.due("1", x.breaks(0, 2), NONE);
        Check.due("0", x.breaks(0, 3), 0);
        Check.due("breaks(1, 0)", x.breaks(1, 0), BAD);
        Check.due("breaks(-1, 0)", x.breaks(-1, 0), BAD);
        Check.due("breaks(0, 4)", x.breaks(0, 4), BAD);
        Check.due("breaks(0, -1)", x.breaks(0, -1), BAD);
        x.call(0, 0, 100, 0);
        Check.due("done from THE START", x.breaks(0, 1), 2);
        Check.due("what is told is not touched", x.state(0), 100);
        Check.method(x, 0, "a = a - n;");
        Check.due("as METHODS are now", x.breaks(0, 1), NONE);
        x.actor(0, 1, -1, 0);
        Check.rule(x, "m0 < 1");
        Check.due("THE START with its MONEY", x.breaks(0, 4), 0);
    }

    private static void profit() {
        InvariantSearch x = new InvariantSearch();
        Check.method(x, 0, "p = p + v;");
        Check.method(x, 1, "need n < p + 1; pay n; p = p - n;");
        Check.rule(x, "m1 < 11");
        x.actor(0, 30, -1, 0);
        x.actor(1, 10, 1, 10);
        x.choice(0, 0, 0, 20);
        x.choice(1, 0, 0, 10);
        x.choice(1, 1, 10, 0);
        x.row(Check.word(0, 1, 2), 3);
        Check.due("breaks", x.breaks(0, 0), 2);
        Check.due("paid three times", x.profit(0, 1), 20);
        Check.due("the other one", x.profit(0, 0), -20);
        Check.due("one without", x.profit(0, 3), 0);
        x.row(Check.word(0, 1), 2);
        Check.due("paid in", x.profit(1, 1), -10);
        Check.due("all its calls are done", x.row(Check.word(0, 1, 2, 1, 2), 5), 2);
        Check.due("behind the break, too", x.profit(2, 1), 10);
        x.call(1, 0, 0, 10);
        Check.due("from THE START", x.profit(0, 1), 20);
        Check.due("profit(3, 0)", x.profit(3, 0), -2000000000);
        Check.due("profit(-1, 0)", x.profit(-1, 0), -2000000000);
        Check.due("profit(0, 4)", x.profit(0, 4), -2000000000);
        Check.due("profit(0, -1)", x.profit(0, -1), -2000000000);
    }

    private static void fullAheadOfNone() {
        InvariantSearch x = adder();
        Check.method(x, 2, "need n;");
        x.choice(0, 2, 1, 0);
        Check.due("every", x.every(2, 1), 1);
        for (int i = 0; i < 20; i++) {
            x.row(0, 1);
        }
        Check.due("every", x.every(2, 12), FULL);
        Check.due("draw", x.draw(2, 1, 1), FULL);
        Check.due("nothing was drawn", x.met(2, 0), 0);
        Check.due("least", x.least(0, 2), FULL);
        Check.due("states() is of the latest one done", x.states(), 1);
        Check.due("every BAD", x.every(2, 0), BAD);
        Check.due("draw BAD", x.draw(2, 1, 0), BAD);
        Check.due("least BAD", x.least(20, 2), BAD);
    }
}
