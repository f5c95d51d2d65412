/** Promises 6 to 10: actor, call, start, state, holds, and what a CALL does. */
public final class ActorsTest {
    private static final int BAD = InvariantSearch.BAD;
    private static final int MILLION = 1000000;

    public static void main(String[] args) {
        actor();
        callLimits();
        start();
        state();
        holds();
        values();
        statements();
        money();
        callBacks();
        failures();
        Check.end();
    }

    private static void actor() {
        InvariantSearch x = new InvariantSearch();
        Check.due("actor 0", x.actor(0, 0, -1, 0), 1);
        Check.due("actor 3, most money", x.actor(3, MILLION, -1, 0), 1);
        Check.due("m3", x.state(17), MILLION);
        Check.due("actor -1", x.actor(-1, 0, -1, 0), BAD);
        Check.due("actor 4", x.actor(4, 0, -1, 0), BAD);
        Check.due("money -1", x.actor(0, -1, -1, 0), BAD);
        Check.due("money above", x.actor(0, MILLION + 1, -1, 0), BAD);
        Check.due("k -2", x.actor(0, 0, -2, 0), BAD);
        Check.due("k 6", x.actor(0, 0, 6, 0), BAD);
        Check.due("n below", x.actor(0, 0, 0, -MILLION - 1), BAD);
        Check.due("n above", x.actor(0, 0, 5, MILLION + 1), BAD);
        Check.due("n lowest", x.actor(0, 0, 0, -MILLION), 1);
        Check.due("n highest", x.actor(0, 0, 5, MILLION), 1);
        Check.due("n does not matter", x.actor(0, 5, -1, Integer.MAX_VALUE), 1);
        Check.method(x, 0, "a = a + v; p = 1;");
        x.call(0, 0, 0, 4);
        Check.due("m0 behind a call", x.state(14), 1);
        Check.due("a refused one changes nothing", x.actor(1, -1, -1, 0), BAD);
        Check.due("m0 still", x.state(14), 1);
        Check.due("another actor is told", x.actor(1, 9, -1, 0), 1);
        Check.due("THE START again: m0", x.state(14), 5);
        Check.due("THE START again: a", x.state(0), 0);
        Check.due("THE START again: p", x.state(6), 0);
        Check.due("THE START again: h", x.state(18), 0);
        Check.due("m1", x.state(15), 9);
        Check.due("no calls since then", x.start(), 0);
    }

    private static void callLimits() {
        InvariantSearch x = new InvariantSearch();
        Check.method(x, 5, "a = n; b = v; c = w; p = 3;");
        x.actor(3, MILLION, -1, 0);
        Check.due("the highest", x.call(3, 5, MILLION, MILLION), 1);
        Check.due("n", x.state(0), MILLION);
        Check.due("v", x.state(1), MILLION);
        Check.due("w", x.state(2), 3);
        Check.due("p of actor 3", x.state(9), 3);
        Check.due("h", x.state(18), MILLION);
        Check.due("the lowest", x.call(0, 5, -MILLION, 0), 1);
        Check.due("n", x.state(0), -MILLION);
        int[][] bad = {{-1, 5, 0, 0}, {4, 5, 0, 0}, {0, -1, 0, 0}, {0, 6, 0, 0}, {0, 5, -MILLION - 1, 0},
            {0, 5, MILLION + 1, 0}, {0, 5, 0, -1}, {0, 5, 0, MILLION + 1},
            {Integer.MIN_VALUE, Integer.MAX_VALUE, Integer.MIN_VALUE, Integer.MAX_VALUE}};
        for (int[] one : bad) {
            Check.due("a bad call", x.call(one[0], one[1], one[2], one[3]), BAD);
            Check.due("a bad choice", x.choice(one[0], one[1], one[2], one[3]), BAD);
        }
        Check.due("bad calls are none", x.start(), 2);
        Check.due("less money than v", x.call(1, 5, 0, 1), 0);
        Check.due("a method that was not told", x.call(1, 4, 0, 0), 0);
        Check.due("such calls are counted", x.start(), 2);
    }

    private static void start() {
        InvariantSearch x = new InvariantSearch();
        Check.method(x, 0, "a = a + 1; need a < 3;");
        x.actor(0, 4, -1, 0);
        x.call(0, 0, 0, 1);
        x.call(0, 0, 0, 1);
        Check.due("the third fails", x.call(0, 0, 0, 1), 0);
        Check.due("three calls", x.start(), 3);
        Check.due("a", x.state(0), 0);
        Check.due("m0", x.state(14), 4);
        Check.due("h", x.state(18), 0);
        Check.due("none since then", x.start(), 0);
    }

    private static void state() {
        InvariantSearch x = new InvariantSearch();
        Check.method(x, 0, "a=1;b=2;c=3;d=4;e=5;f=6;p=10+w;q=20+w;");
        for (int i = 0; i < 4; i++) {
            x.actor(i, 100 + i, -1, 0);
        }
        for (int i = 0; i < 4; i++) {
            x.call(i, 0, 0, 30 + i);
        }
        int[] want = {1, 2, 3, 4, 5, 6, 10, 11, 12, 13, 20, 21, 22, 23, 70, 70, 70, 70, 126};
        for (int what = 0; what < want.length; what++) {
            Check.due("state(" + what + ")", x.state(what), want[what]);
        }
        Check.due("state(-1)", x.state(-1), BAD);
        Check.due("state(19)", x.state(19), BAD);
        Check.due("state(min)", x.state(Integer.MIN_VALUE), BAD);
    }

    private static void holds() {
        InvariantSearch x = new InvariantSearch();
        Check.method(x, 0, "a = n; p = v;");
        x.actor(0, 50, -1, 0);
        x.actor(2, 60, -1, 0);
        Check.rule(x, "a");
        Check.rule(x, "10 / a");
        Check.rule(x, "m0 + m1 + m2 + m3 + h = 110");
        Check.rule(x, "a * 1000 < 1000000");
        Check.rule(x, "P = h");
        Check.rule(x, "a - a");
        Check.due("0 is broken", x.holds(0), 0);
        Check.due("what can't be reckoned is broken", x.holds(1), 0);
        Check.due("the sum", x.holds(2), 1);
        x.call(2, 0, -5, 7);
        Check.due("not 0", x.holds(0), 1);
        Check.due("10 / -5", x.holds(1), 1);
        Check.due("the sum still", x.holds(2), 1);
        Check.due("P = h", x.holds(4), 1);
        Check.due("a - a", x.holds(5), 0);
        x.call(2, 0, 1000, 0);
        Check.due("1000000 < 1000000", x.holds(3), 0);
        x.call(2, 0, MILLION, 0);
        Check.due("10^9 < 1000000", x.holds(3), 0);
        Check.due("10 / 10^6 is 0", x.holds(1), 0);
        Check.due("P is of the last call", x.holds(4), 0);
        Check.due("holds(-1)", x.holds(-1), BAD);
        Check.due("holds(6)", x.holds(6), BAD);
        Check.due("holds changes nothing", x.start(), 3);
        x.choice(2, 0, 5, 0);
        x.row(0, 1);
        Check.due("a row behind which it holds", x.breaks(0, 0), InvariantSearch.NONE);
        Check.due("is not the state that is told", x.holds(0), 0);
    }

    private static void values() {
        Check.valueDue("1 + 2 * 3", 7);
        Check.valueDue("(1 + 2) * 3", 9);
        Check.valueDue("10 - 3 - 2", 5);
        Check.valueDue("100 / 7 / 2", 7);
        Check.valueDue("100 / 7 * 2", 28);
        Check.valueDue("-7 / 2", -3);
        Check.valueDue("7 / -2", -3);
        Check.valueDue("-(7 / 2)", -3);
        Check.valueDue("0 / 5", 0);
        Check.valueDue("2 < 3", 1);
        Check.valueDue("3 < 3", 0);
        Check.valueDue("3 = 3", 1);
        Check.valueDue("3 = 1 + 2", 1);
        Check.valueDue("1 + 2 = 4", 0);
        Check.valueDue("5 & 2", 1);
        Check.valueDue("5 & 0", 0);
        Check.valueDue("0 | -3", 1);
        Check.valueDue("0 | 0", 0);
        Check.valueDue("7 | 0", 1);
        // & binds as * does, | as + does, both from the left
        Check.valueDue("3 + 4 & 5", 4);
        Check.valueDue("2 * 3 & 1", 1);
        Check.valueDue("3 & 2 * 5", 5);
        Check.valueDue("4 | 0 + 6", 7);
        Check.valueDue("6 + 4 | 0", 1);
        Check.valueDue("1 | 0 & 0", 1);
        Check.valueDue("!0", 1);
        Check.valueDue("!5", 0);
        Check.valueDue("!!5", 1);
        Check.valueDue("-!0", -1);
        Check.valueDue("!-1", 0);
        Check.valueDue("!0 + 1", 2);
        Check.valueDue("-2 * 3", -6);
        Check.valueDue("--4", 4);
        Check.valueDue("n * 100 + v * 10 + w", 732);
        Check.valueDue("h", 3);
        Check.valueDue("999999999 + 1", 1000000000);
        Check.valueDue("-999999999 - 1", -1000000000);
        Check.valueDue("31623 * 31622", 999982506);
        Check.failureDue("999999999 + 2");
        Check.failureDue("-999999999 - 2");
        Check.failureDue("31623 * 31623");
        Check.failureDue("999999999 * 999999999 * 999999999");
        Check.failureDue("1 / 0");
        Check.failureDue("0 & 1 / 0");
        Check.failureDue("1 | 1 / 0");
        Check.failureDue("0 * (1 / a)");
        Check.failureDue("(999999999 + 2) - 5");
        Check.valueDue("1-(1-(1-(1-(1-(1-(1-(1-(1*1+0<2*3-4)))))))) * 1 < 2", 1);
        Check.valueDue("0<1+2*(0<1+2*(0<1+2*(0<1+2*(0<1+2*(0<1+2*(0<1+2*(0<1+2*(0<1+2*3))))))))", 1);
    }

    private static void statements() {
        InvariantSearch x = new InvariantSearch();
        Check.method(x, 0, "if n { a = a + 1; if n - 1 { b = b + 1; } c = c + 1; } d = d + 1;");
        x.call(0, 0, 0, 0);
        x.call(0, 0, 1, 0);
        x.call(0, 0, 2, 0);
        x.call(0, 0, -2, 0);
        int[] want = {3, 2, 3, 4};
        for (int i = 0; i < 4; i++) {
            Check.due("cell " + i, x.state(i), want[i]);
        }
        Check.method(x, 1, "need n; a = 100; need n - 5; a = 200;");
        Check.due("need 0", x.call(0, 1, 0, 0), 0);
        Check.due("need behind", x.call(0, 1, 5, 0), 0);
        Check.due("a is as it was", x.state(0), 3);
        Check.due("both needs", x.call(0, 1, -1, 0), 1);
        Check.due("a", x.state(0), 200);
        Check.method(x, 2, "p = n; q = P; a = Q;");
        x.start();
        x.call(1, 2, 5, 0);
        x.call(2, 2, 7, 0);
        Check.due("P", x.state(12), 12);
        Check.due("Q", x.state(0), 17);
        x.call(0, 2, 100, 0);
        x.call(3, 2, 1000, 0);
        Check.due("P of all four", x.state(13), 1112);
        Check.due("Q of all four", x.state(0), 1112 + 112 + 12 + 5);
        Check.method(x, 3, "p = 999999999 + 1;");
        Check.method(x, 4, "b = P - P;");
        x.start();
        x.call(0, 3, 0, 0);
        Check.due("P of 10^9", x.call(0, 4, 0, 0), 1);
        x.call(1, 3, 0, 0);
        Check.due("P above 10^9", x.call(0, 4, 0, 0), 0);
        Check.method(x, 3, "p = - 999999999 - 1;");
        x.call(2, 3, 0, 0);
        Check.due("P is told of all added", x.call(0, 4, 0, 0), 1);
        Check.rule(x, "P = P");
        Check.due("a rule with P", x.holds(0), 1);
        x.call(0, 3, 0, 0);
        x.call(1, 3, 0, 0);
        Check.due("a rule with P below -10^9", x.holds(0), 0);
        Check.due("a call with P below -10^9", x.call(0, 4, 0, 0), 0);
    }

    private static void money() {
        InvariantSearch x = new InvariantSearch();
        x.actor(1, 10, -1, 0);
        Check.method(x, 0, "pay n;");
        Check.due("v comes ahead of the statements", x.call(1, 0, 10, 10), 1);
        Check.due("m1", x.state(15), 10);
        Check.due("pay above h", x.call(1, 0, 11, 10), 0);
        Check.due("m1 is as it was", x.state(15), 10);
        Check.due("pay below 0", x.call(1, 0, -1, 10), 0);
        Check.due("h is as it was", x.state(18), 0);
        Check.due("v is all there is", x.call(1, 0, 0, 10), 1);
        Check.due("m1 is 0", x.state(15), 0);
        Check.due("h", x.state(18), 10);
        Check.due("another one is paid", x.call(3, 0, 4, 0), 1);
        Check.due("m3", x.state(17), 4);
        Check.due("h", x.state(18), 6);
    }

    private static void callBacks() {
        InvariantSearch x = new InvariantSearch();
        x.actor(0, 100, 0, 7);
        Check.method(x, 0, "a = a * 10 + n; b = b * 10 + 1 + v; pay 1; c = c * 10 + n;");
        Check.due("call", x.call(0, 0, 5, 8), 1);
        Check.due("n of three calls, no fourth", x.state(0), 577);
        Check.due("v is 0 in those called back", x.state(1), 911);
        Check.due("each goes on behind its pay", x.state(2), 775);
        Check.due("h", x.state(18), 5);
        Check.due("m0", x.state(14), 95);
        x.start();
        Check.due("the inner pays fail", x.call(0, 0, 5, 1), 1);
        Check.due("the outer one goes on", x.state(0), 5);
        Check.due("and its pay stands", x.state(14), 100);
        x.actor(0, 100, -1, 0);
        x.call(0, 0, 5, 8);
        Check.due("no hook, no calls back", x.state(0), 5);
        x.actor(0, 100, 3, 0);
        Check.due("a hook that was not told", x.call(0, 0, 5, 8), 1);
        Check.due("a", x.state(0), 5);
        Check.method(x, 3, "a = 9999; need w; d = 1;");
        Check.due("a hook that fails", x.call(0, 0, 5, 0), 1);
        Check.due("is as if it had not been", x.state(0), 55);
        Check.method(x, 4, "pay 1; p = p + 1; need 0;");
        x.actor(0, 100, 0, 7);
        Check.due("the outer one fails", x.call(0, 4, 0, 9), 0);
        for (int what = 0; what < 19; what++) {
            Check.due("all is as it was: " + what, x.state(what), what == 14 ? 100 : 0);
        }
        InvariantSearch y = new InvariantSearch();
        y.actor(2, 10, 1, 0);
        Check.method(y, 0, "pay 0; a = w;");
        Check.method(y, 1, "b = b + 1; p = 5;");
        y.call(2, 0, 0, 0);
        Check.due("pay 0 calls back", y.state(1), 1);
        Check.due("the same actor", y.state(8), 5);
        y.call(1, 0, 0, 0);
        Check.due("an actor without a hook", y.state(1), 1);
    }

    private static void failures() {
        InvariantSearch x = new InvariantSearch();
        x.actor(0, 10, 1, 0);
        String deep = "1<2+3*(1<2+3*(1<2+3*(1<2+3*(1<2+3*(1<2+3*(1<2+3*(1<2+3*(1<2+3*%))))))))";
        Check.method(x, 0, "pay 1; a = " + deep.replace("%", "1") + ";");
        Check.method(x, 1, "b = 7; a = " + deep.replace("%", "(1/c)").replaceFirst("\\(", "").replaceFirst("\\)", "") + ";");
        Check.due("one fails deep within E, the other goes on", x.call(0, 0, 0, 5), 1);
        Check.due("a", x.state(0), 1);
        Check.due("b", x.state(1), 0);
        Check.method(x, 2, "a = 1; pay 2; c = 1 / (d - d);");
        x.start();
        x.call(0, 0, 0, 5);
        Check.due("a call that fails behind a pay", x.call(0, 2, 0, 1), 0);
        Check.due("m0", x.state(14), 6);
        Check.due("h", x.state(18), 4);
        Check.due("c", x.state(2), 0);
    }
}
