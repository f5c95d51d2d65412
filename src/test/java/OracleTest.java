import java.util.Random;

/** Long runs of calls drawn at random, each answer compared with the Oracle's. */
public final class OracleTest {
    private static final int RUNS = Integer.getInteger("runs", 2500);
    // The document says nothing of an object behind its 512th call; no step asks for more than the last 200.
    private static final int CALLS = 512;
    private static final int MOST_OF_A_STEP = 200;

    private final Random random;
    private final InvariantSearch x = new InvariantSearch();
    private final Oracle y = new Oracle();
    private final StringBuilder log = new StringBuilder();
    private int calls = 0;
    private static final int[] answers = new int[4];

    private OracleTest(long seed) {
        random = new Random(seed);
    }

    public static void main(String[] args) {
        int from = Integer.getInteger("from", 0);
        for (int seed = from; seed < from + RUNS; seed++) {
            new OracleTest(seed).run(seed);
        }
        System.out.println("every: " + answers[0] + " found, " + answers[1] + " proved, " + answers[2]
                + " not known; draw: " + answers[3] + " found");
        Check.due("each kind of answer was met", answers[0] > 0 && answers[1] > 0 && answers[2] > 0 && answers[3] > 0 ? 1 : 0, 1);
        Check.end();
    }

    private void same(String call, long got, long want) {
        calls++;
        log.append(call).append(" = ").append(got).append('\n');
        Check.due(call, got, want);
        if (got != want) {
            System.out.println(log);
            System.exit(1);
        }
    }

    private int below(int n) {
        return random.nextInt(n);
    }

    private String pick(String... some) {
        return some[below(some.length)];
    }

    private void run(int seed) {
        log.append("seed ").append(seed).append('\n');
        for (int k = 0; k < 6; k++) {
            if (below(8) > 0) {
                tellMethod(k);
            }
        }
        for (int i = 0; i < 4; i++) {
            tellActor(i);
        }
        for (int i = 0; i < 5; i++) {
            tellRule();
        }
        for (int i = below(12); i >= 0; i--) {
            addChoice();
        }
        while (calls < CALLS - MOST_OF_A_STEP) {
            step(below(100));
        }
        Check.yes("calls of seed " + seed, calls <= CALLS);
    }

    private void tellMethod(int k) {
        statementsLeft = 1 + below(below(4) == 0 ? 14 : 6);
        StringBuilder text = new StringBuilder();
        while (statementsLeft > 0) {
            text.append(statement(0)).append(pick("", " "));
        }
        feed(spoiled(text.toString()));
        same("method(" + k + ")", x.method(k), y.method(k));
    }

    private void tellRule() {
        isRule = true;
        String text = below(3) == 0
                ? pick("h = P", "h < 9", "m0 + m1 < 40", "a < 5", "b = 0", "!c", "d + e < 9", "a = b", "h = a", "1", "Q < 6")
                : expression(0);
        isRule = false;
        feed(spoiled(text));
        same("rule()", x.rule(), y.rule());
    }

    private int statementsLeft;
    private boolean isRule;

    private String statement(int ifs) {
        statementsLeft--;
        switch (below(ifs < 5 ? 6 : 4)) {
            case 0:
                return "need " + expression(0) + ";";
            case 1:
                return "pay " + pick("n", "v", "p", "1", "h", "0", "h/2", expression(1)) + ";";
            case 4:
            case 5:
                StringBuilder body = new StringBuilder();
                while (statementsLeft > 0 && below(3) > 0) {
                    body.append(statement(ifs + 1)).append(pick("", " "));
                }
                return "if " + expression(0) + " {" + body + "}";
            default:
                String cell = pick("a", "b", "c", "d", "e", "f", "p", "q");
                String[] ways = {cell + "+n", cell + "+v", "1", "n", "v", cell + "-n", "w", expression(1)};
                return cell + " = " + pick(ways) + ";";
        }
    }

    private String expression(int deep) {
        String one = sum(deep);
        return below(2) == 0 ? one : one + pick("<", " < ", "=", " = ") + sum(deep);
    }

    private String sum(int deep) {
        StringBuilder text = new StringBuilder(product(deep));
        while (below(3) == 0) {
            text.append(pick("+", " + ", "-", " - ", "|", " | ")).append(product(deep));
        }
        return text.toString();
    }

    private String product(int deep) {
        StringBuilder text = new StringBuilder(factor(deep));
        while (below(4) == 0) {
            text.append(pick("*", " * ", "/", " / ", "&", " & ")).append(factor(deep));
        }
        return text.toString();
    }

    private String factor(int deep) {
        String ahead = below(8) == 0 ? "!-".substring(below(2)).substring(0, 1).repeat(below(20) == 0 ? below(11) : 1) : "";
        if (deep < 10 && below(6) == 0) {
            return ahead + "(" + expression(deep + 1) + ")";
        }
        switch (below(4)) {
            case 0:
                return ahead + pick("0", "1", "2", "3", "7", "10", "999999999", "40000", "" + below(100));
            case 1:
                return ahead + (isRule ? pick("m0", "m1", "m2", "m3", "h") : pick("n", "v", "w", "h"));
            case 2:
                return ahead + pick("P", "Q", "a", "b", "c", "d", "e", "f");
            default:
                return ahead + (isRule ? pick("a", "b", "c", "P", "m0") : pick("p", "q", "n", "a", "b"));
        }
    }

    /** Mostly the text as it is; now and then with a byte changed, lost or added. */
    private String spoiled(String text) {
        if (below(10) > 0 || text.isEmpty()) {
            return text;
        }
        int at = below(text.length());
        String signs = "+-*/<=&|!(){};abcdefghmnpqvwPQ0123456789 $#iy";
        String one = "" + signs.charAt(below(signs.length()));
        switch (below(3)) {
            case 0:
                return text.substring(0, at) + one + text.substring(at + 1);
            case 1:
                return text.substring(0, at) + text.substring(at + 1);
            default:
                return text.substring(0, at) + one + text.substring(at);
        }
    }

    private void feed(String text) {
        log.append("text ").append(text).append('\n');
        char[] all = new char[(text.length() + 15) / 16 * 16];
        for (int i = 0; i < all.length; i++) {
            all[i] = i < text.length() ? text.charAt(i) : ' ';
        }
        for (int i = 0; i < all.length; i += 16) {
            int a = Check.four(all, i);
            int b = Check.four(all, i + 4);
            int c = Check.four(all, i + 8);
            int d = Check.four(all, i + 12);
            same("feed", x.feed(a, b, c, d), y.feed(a, b, c, d));
        }
        int pad = below(2) * (all.length - text.length());
        same("cut(" + pad + ")", x.cut(pad), y.cut(pad));
    }

    private int smallN() {
        return below(12) == 0 ? below(2100000) - 1050000 : below(14) - 3;
    }

    private int smallV() {
        return below(20) == 0 ? below(1100000) : below(2) * below(12);
    }

    private void tellActor(int i) {
        int money = below(10) == 0 ? below(1000001) : below(40);
        int k = below(7) - 1;
        int n = smallN();
        same("actor(" + i + ", " + money + ", " + k + ", " + n + ")", x.actor(i, money, k, n), y.actor(i, money, k, n));
    }

    private void addChoice() {
        int i = below(30) == 0 ? 4 : below(4);
        int k = below(30) == 0 ? 6 : below(6);
        int n = smallN();
        int v = smallV();
        same("choice(" + i + ", " + k + ", " + n + ", " + v + ")", x.choice(i, k, n, v), y.choice(i, k, n, v));
    }

    private int some(int top) {
        return below(12) == 0 ? below(40) - 5 : below(Math.max(1, top));
    }

    private void step(int what) {
        int rule = some(y.told(1));
        int row = some(y.told(3));
        int rows = y.told(3);
        if (what < 20) {
            int i = below(4);
            int k = below(6);
            int n = smallN();
            int v = smallV();
            same("call(" + i + ", " + k + ", " + n + ", " + v + ")", x.call(i, k, n, v), y.call(i, k, n, v));
            sameState(below(3));
        } else if (what < 26) {
            same("holds(" + rule + ")", x.holds(rule), y.holds(rule));
        } else if (what < 38) {
            int most = some(13);
            int got = x.every(rule, most);
            answers[got <= -10 ? 0 : got == 1 ? 1 : 2] += got == 1 || got == -2 || got <= -10 ? 1 : 0;
            same("every(" + rule + ", " + most + ")", got, y.every(rule, most));
            same("states()", x.states(), y.states());
            sameNewRow(rows);
        } else if (what < 52) {
            int seed = random.nextInt();
            int many = below(3) == 0 ? below(210) - 3 : 1 + below(6);
            int got = x.draw(rule, seed, many);
            answers[3] += got >= 0 ? 1 : 0;
            same("draw(" + rule + ", " + seed + ", " + many + ")", got, y.draw(rule, seed, many));
            sameNewRow(rows);
            sameMet();
        } else if (what < 60) {
            long w = 0;
            for (int i = 0; i < 12; i++) {
                w = w << 5 | below(Math.max(1, y.told(2)) + (below(60) == 0 ? 2 : 0));
            }
            int n = some(13);
            same("row(" + w + ", " + n + ")", x.row(w, n), y.row(w, n));
        } else if (what < 68) {
            same("least(" + row + ", " + rule + ")", x.least(row, rule), y.least(row, rule));
            sameNewRow(rows);
        } else if (what < 74) {
            same("breaks(" + row + ", " + rule + ")", x.breaks(row, rule), y.breaks(row, rule));
        } else if (what < 80) {
            int i = some(4);
            same("profit(" + row + ", " + i + ")", x.profit(row, i), y.profit(row, i));
        } else {
            rest(what);
        }
    }

    private void rest(int what) {
        if (what < 84) {
            tellMethod(below(6));
        } else if (what < 86) {
            tellRule();
        } else if (what < 88) {
            tellActor(below(4));
        } else if (what < 91) {
            addChoice();
        } else if (what < 93) {
            same("start()", x.start(), y.start());
        } else if (what == 93) {
            same("fresh()", x.fresh(), y.fresh());
            for (int i = below(14); i > 0; i--) {
                addChoice();
            }
        } else if (what < 97) {
            int t = below(13) - 1;
            same("told(" + t + ")", x.told(t), y.told(t));
        } else {
            sameMet();
        }
    }

    /** Every third number of THE STATE. */
    private void sameState(int from) {
        for (int what = from; what < 19; what += 3) {
            same("state(" + what + ")", x.state(what), y.state(what));
        }
    }

    private void sameNewRow(int before) {
        if (y.told(3) > before) {
            for (int i = -1; i <= y.at(before, -1); i++) {
                same("at(" + before + ", " + i + ")", x.at(before, i), y.at(before, i));
            }
        }
    }

    /** The LEAVES of two METHODS and two KEPT ones. */
    private void sameMet() {
        for (int turn = 0; turn < 2; turn++) {
            int k = below(8) - 1;
            for (int l = -1; l <= Math.max(0, y.told(5 + Math.max(0, Math.min(k, 5)))); l++) {
                same("met(" + k + ", " + l + ")", x.met(k, l), y.met(k, l));
            }
            int one = below(y.told(4) + 1);
            for (int i = -2; i <= Math.max(0, y.kept(one, -1)); i++) {
                same("kept(" + one + ", " + i + ")", x.kept(one, i), y.kept(one, i));
            }
        }
        same("told(4)", x.told(4), y.told(4));
    }
}
