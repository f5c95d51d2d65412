import java.util.Arrays;

/** Terms, 3 ROWS, DRAWN: each sentence that names an edge. */
final class EdgesOfDraws {
    private static final int BAD = InvariantSearch.BAD;
    private static final int NONE = InvariantSearch.NONE;

    private EdgesOfDraws() {
    }

    static void test(Sentences s) {
        s.test("x (an int) becomes x 1103515245 + 12345, and r = x >>> 16 is what is drawn.", EdgesOfDraws::numbers);
        s.test("A ROW is drawn so: r; if there are KEPT ones, and r is odd, it begins as the KEPT one numbered r / 2 modulo"
                + " how many there are; else with nothing;", EdgesOfDraws::begin);
        s.test("then r: 1 + r modulo 6 more calls, each r modulo how many CHOICES there are;", EdgesOfDraws::more);
        s.test("but 12 in all at most (what is above is not drawn).", EdgesOfDraws::twelve);
        s.test("It is done from THE START, up to where it BREAKS the RULE.", EdgesOfDraws::done);
        s.test("One that MEETS a LEAF that none DRAWN before has met is KEPT (as far as it was done), 8 at most;",
                EdgesOfDraws::kept);
        s.test("what METHODS and CHOICES change does not matter to that.", EdgesOfDraws::changes);
        s.test("(A METHOD that is told anew has its LEAVES unmet, and those of others stay.", EdgesOfDraws::toldAnew);
        s.test("call() and other ROWS MEET none.)", EdgesOfDraws::othersMeetNone);
    }

    /** METHOD 0 has a LEAF; RULE 0 always holds; so many CHOICES are the same. */
    private static InvariantSearch needing(int choices) {
        InvariantSearch x = new InvariantSearch();
        Check.method(x, 0, "need 1;");
        Check.rule(x, "1");
        for (int i = 0; i < choices; i++) {
            x.choice(0, 0, 0, 0);
        }
        return x;
    }

    private static void keptDue(InvariantSearch x, int k, int... want) {
        Check.due("kept(" + k + ", -1)", x.kept(k, -1), want.length);
        for (int i = 0; i < want.length; i++) {
            Check.due("kept(" + k + ", " + i + ")", x.kept(k, i), want[i]);
        }
    }

    /** One ROW is drawn, and KEPT: METHOD 0 is told anew, so it MEETS something new. */
    private static void drawOne(InvariantSearch x, int seed) {
        Check.method(x, 0, "need 1;");
        Check.due("draw from " + seed, x.draw(0, seed, 1), NONE);
    }

    private static void numbers() {
        int[] seeds = {0, 1, -1, 2, 12345, 1103515245, 65535, 65536, -65536, Integer.MAX_VALUE, Integer.MIN_VALUE,
            Integer.MAX_VALUE - 1, Integer.MIN_VALUE + 1};
        for (int seed : seeds) {
            for (int choices : new int[] {1, 7, 29, 30}) {
                InvariantSearch x = needing(choices);
                drawOne(x, seed);
                keptDue(x, 0, new Drawing(seed).row(choices));
            }
        }
        // reckoned elsewhere: x is 12345, -740551042, -1492899873, -698016724; r is 0, 54236, 42756, 54885
        InvariantSearch y = needing(30);
        drawOne(y, 0);
        Check.due("1 + 54236 modulo 6", y.kept(0, -1), 3);
        Check.due("42756 modulo 30", y.kept(0, 0), 6);
        Check.due("54885 modulo 30", y.kept(0, 1), 15);
    }

    private static void begin() {
        InvariantSearch none = needing(30);
        int odd = Drawing.seed(d -> d.number() % 2 == 1);
        drawOne(none, odd);
        keptDue(none, 0, new Drawing(odd).row(30));
        int[] seen = new int[4];
        for (int seed = 0; seed < 40; seed++) {
            InvariantSearch x = needing(30);
            int[][] kept = new int[3][];
            for (int k = 0; k < 3; k++) {
                // an even first number: each begins with nothing
                int turn = k;
                int one = Drawing.seed(d -> d.number() % 2 == 0 && d.number() % 6 == 2 + turn);
                drawOne(x, one);
                kept[k] = new Drawing(one).row(30);
                keptDue(x, k, kept[k]);
            }
            int r = new Drawing(seed).number();
            seen[r % 2 == 0 ? 3 : r / 2 % 3]++;
            drawOne(x, seed);
            keptDue(x, 3, new Drawing(seed).row(30, kept));
        }
        for (int i = 0; i < 4; i++) {
            Check.yes("each of three KEPT ones is begun with, and nothing: " + i, seen[i] > 0);
        }
        eightKept();
    }

    /** r / 2 modulo how many there are, while they are more and more. */
    private static void eightKept() {
        InvariantSearch x = needing(5);
        int[][] kept = new int[0][];
        for (int turn = 0; turn < 8; turn++) {
            int seed = turn * 7919 + 3;
            int[] row = new Drawing(seed).row(5, kept);
            drawOne(x, seed);
            keptDue(x, turn, row);
            kept = Arrays.copyOf(kept, turn + 1);
            kept[turn] = row;
        }
    }

    private static void more() {
        for (int left = 0; left < 6; left++) {
            int rest = left;
            int seed = Drawing.seed(d -> d.number() >= 0 && d.number() % 6 == rest);
            InvariantSearch x = needing(30);
            drawOne(x, seed);
            Check.due("1 + " + left, x.kept(0, -1), 1 + left);
            keptDue(x, 0, new Drawing(seed).row(30));
        }
        for (int choices = 1; choices <= 30; choices++) {
            InvariantSearch x = needing(choices);
            int many = choices;
            int last = Drawing.seed(d -> d.number() >= 0 && d.number() >= 0 && d.number() % many == many - 1);
            drawOne(x, last);
            Check.due("the last of " + choices, x.kept(0, 0), choices - 1);
            int first = Drawing.seed(d -> d.number() % 2 == 0 && d.number() >= 0 && d.number() % many == 0);
            drawOne(x, first);
            Check.due("the first of " + choices, x.kept(1, 0), 0);
        }
        // from an even number on nothing KEPT is begun with, but one from an odd one has more calls than it
        InvariantSearch y = needing(3);
        int six = Drawing.seed(d -> d.number() % 2 == 0 && d.number() % 6 == 5);
        int oneMore = Drawing.seed(d -> d.number() % 2 == 1 && d.number() % 6 == 0);
        drawOne(y, six);
        drawOne(y, oneMore);
        Check.due("six", y.kept(0, -1), 6);
        Check.due("and one more at least", y.kept(1, -1), 7);
    }

    private static void twelve() {
        int six = Drawing.seed(d -> d.number() % 2 == 0 && d.number() % 6 == 5);
        // begins as the KEPT one that came last
        int five = Drawing.seed(d -> d.number() % 2 == 1 && d.number() % 6 == 4);
        int twoOfTwo = Drawing.seed(d -> {
            int r = d.number();
            return r % 2 == 1 && r / 2 % 2 == 1 && d.number() % 6 == 1;
        });
        InvariantSearch x = needing(9);
        int[] first = new Drawing(six).row(9);
        int[] second = new Drawing(five).row(9, first);
        int[] third = new Drawing(twoOfTwo).row(9, first, second);
        drawOne(x, six);
        drawOne(x, five);
        drawOne(x, twoOfTwo);
        Check.due("six and five", x.kept(1, -1), 11);
        Check.due("and of two just one", x.kept(2, -1), 12);
        keptDue(x, 1, second);
        keptDue(x, 2, third);
        whatIsAbove();
    }

    /** A ROW that begins with twelve calls draws none, and the next one goes on from there. */
    private static void whatIsAbove() {
        InvariantSearch x = needing(8);
        Check.method(x, 1, "need 1;");
        x.choice(0, 1, 0, 0);
        int six = Drawing.seed(d -> d.number() % 2 == 0 && d.number() % 6 == 5 && hasSixWithoutLast(d));
        int sixMore = Drawing.seed(d -> d.number() % 2 == 1 && d.number() % 6 == 5 && hasSixWithoutLast(d));
        int[] first = new Drawing(six).row(9);
        int[] second = new Drawing(sixMore).row(9, first);
        drawOne(x, six);
        drawOne(x, sixMore);
        keptDue(x, 0, first);
        keptDue(x, 1, second);
        Check.due("twelve", second.length, 12);
        // the first ROW is the second KEPT one, as it is; the next one begins with nothing and has CHOICE 8
        int two = Drawing.seed(d -> {
            int r = d.number();
            if (r % 2 == 0 || r / 2 % 2 == 0 || d.number() % 6 == 0) {
                return false;
            }
            return d.number() % 2 == 0 && d.number() % 6 > 2 && d.number() % 9 == 8;
        });
        Drawing drawing = new Drawing(two);
        int[] third = drawing.row(9, first, second);
        int[] fourth = drawing.row(9, first, second);
        Check.yes("it stays as it is", Arrays.equals(third, second));
        Check.due("two ROWS", x.draw(0, two, 2), NONE);
        Check.due("just the one with something new is KEPT", x.told(4), 3);
        keptDue(x, 2, fourth);
    }

    /** Six CHOICES of 9, none of them the last one. */
    private static boolean hasSixWithoutLast(Drawing d) {
        boolean has = true;
        for (int i = 0; i < 6; i++) {
            has &= d.number() % 9 != 8;
        }
        return has;
    }

    private static void done() {
        InvariantSearch x = new InvariantSearch();
        Check.method(x, 0, "a = a + 1; if a = 3 { } need a < 9;");
        Check.rule(x, "a < 1");
        Check.rule(x, "a < 2");
        Check.rule(x, "a < 3");
        Check.rule(x, "a < 7");
        x.choice(0, 0, 0, 0);
        int six = Drawing.seed(d -> d.number() >= 0 && d.number() % 6 == 5);
        x.call(0, 0, 0, 0);
        for (int rule = 0; rule < 3; rule++) {
            x.fresh();
            x.choice(0, 0, 0, 0);
            Check.due("it BREAKS it", x.draw(rule, six, 1), 0);
            Check.due("the ROW", x.at(0, -1), rule + 1);
            Check.due("it is done to there", x.kept(0, -1), rule + 1);
            Check.due("a = 3 was come to", x.met(0, 0), rule == 2 ? 1 : 0);
        }
        x.fresh();
        x.choice(0, 0, 0, 0);
        Check.due("six calls don't BREAK it", x.draw(3, six, 1), NONE);
        Check.due("all are done", x.kept(0, -1), 6);
        Check.due("not from what is told: that would be a = 7", x.state(0), 1);
    }

    private static void kept() {
        InvariantSearch x = needing(1);
        drawOne(x, 1);
        Check.due("something new", x.told(4), 1);
        Check.due("nothing new", x.draw(0, 2, 200), NONE);
        Check.due("is not KEPT", x.told(4), 1);
        for (int turn = 2; turn <= 10; turn++) {
            drawOne(x, turn);
            Check.due("8 at most", x.told(4), Math.min(turn, 8));
            Check.due("it is met though there is no room", x.met(0, 0), 1);
        }
        Check.due("no ninth", x.kept(8, -1), BAD);
        Check.yes("the eighth", x.kept(7, -1) > 0);
        // those that came first stay
        InvariantSearch y = needing(30);
        int[][] rows = new int[8][];
        for (int turn = 0; turn < 10; turn++) {
            int from = turn * 1000;
            int seed = Drawing.seed(d -> d.number() % 2 == 0 && d.number() % 30 == from / 1000);
            drawOne(y, seed);
            if (turn < 8) {
                rows[turn] = new Drawing(seed).row(30);
            }
        }
        for (int k = 0; k < 8; k++) {
            keptDue(y, k, rows[k]);
        }
        keptWhenBroken();
    }

    /** One that BREAKS the RULE is KEPT as it was done, not as it is LEAST; its new ROW is LEAST. */
    private static void keptWhenBroken() {
        InvariantSearch x = new InvariantSearch();
        Check.method(x, 0, "need 1;");
        Check.method(x, 1, "b = 1;");
        Check.rule(x, "!b");
        x.choice(0, 0, 0, 0);
        x.choice(0, 1, 0, 0);
        int seed = Drawing.seed(d -> d.number() % 2 == 0 && d.number() % 6 > 3 && d.number() % 2 == 0 && d.number() % 2 == 0
                && d.number() % 2 == 1);
        Check.due("draw", x.draw(0, seed, 200), 0);
        Check.rowDue(x, 0, 1);
        keptDue(x, 0, 0, 0, 1);
        // one that MEETS nothing but what was met is not KEPT, though it BREAKS the RULE
        Check.due("draw", x.draw(0, seed, 200), 1);
        Check.due("one KEPT", x.told(4), 1);
        // of a LEAF's two, the other one is new
        InvariantSearch y = new InvariantSearch();
        Check.method(y, 0, "if n { }");
        Check.rule(y, "1");
        y.choice(0, 0, 0, 0);
        y.draw(0, 1, 50);
        Check.due("one KEPT", y.told(4), 1);
        y.choice(0, 0, 1, 0);
        y.draw(0, 1, 50);
        Check.due("one more for the other", y.told(4), 2);
        y.draw(0, 7, 200);
        Check.due("no more", y.told(4), 2);
    }

    private static void changes() {
        InvariantSearch x = needing(3);
        int seed = Drawing.seed(d -> d.number() % 2 == 0 && d.number() % 6 == 5);
        int[] row = new Drawing(seed).row(3);
        drawOne(x, seed);
        Check.method(x, 0, "a = 1;");
        Check.due("the METHOD has no LEAVES any more", x.told(5), 0);
        keptDue(x, 0, row);
        Check.method(x, 1, "need 1;");
        x.choice(0, 1, 0, 0);
        x.choice(0, 1, 0, 0);
        x.actor(0, 9, 0, 0);
        Check.rule(x, "0");
        keptDue(x, 0, row);
        Check.due("it is KEPT still", x.told(4), 1);
        int odd = Drawing.seed(d -> d.number() % 2 == 1 && d.number() % 6 == 0 && d.number() % 5 == 4);
        Check.due("draw", x.draw(0, odd, 1), NONE);
        Check.due("it begins as that one", x.kept(1, -1), 7);
        for (int i = 0; i < 6; i++) {
            Check.due("CHOICE " + i, x.kept(1, i), row[i]);
        }
        Check.due("the new CHOICE, the last one", x.kept(1, 6), 4);
    }

    private static void toldAnew() {
        InvariantSearch x = new InvariantSearch();
        Check.rule(x, "1");
        for (int k = 0; k < 6; k++) {
            Check.method(x, k, "need 1;");
            x.choice(0, k, 0, 0);
        }
        x.draw(0, 1, 200);
        for (int k = 0; k < 6; k++) {
            Check.due("all are met: " + k, x.met(k, 0), 1);
        }
        for (int k = 0; k < 6; k++) {
            Check.due("a FAULT", Check.method(x, k, "need 1"), -16);
            Check.due("changes nothing", x.met(k, 0), 1);
            Check.due("BAD", x.method(6 + k), BAD);
            Check.method(x, k, "need 1;");
            for (int other = 0; other < 6; other++) {
                Check.due("LEAF of " + other + ", " + k + " told anew", x.met(other, 0), other > k ? 1 : 0);
            }
        }
        int kept = x.told(4);
        Check.due("draw", x.draw(0, 1, 200), NONE);
        Check.yes("what is unmet is something new", x.told(4) > kept);
        Check.method(x, 0, "need 1; need 0;");
        for (int l = 0; l < 4; l++) {
            Check.due("LEAF " + l, x.met(0, l), 0);
        }
    }

    private static void othersMeetNone() {
        InvariantSearch x = new InvariantSearch();
        Check.method(x, 0, "if a { b = 1; } a = 1; pay 0;");
        Check.method(x, 1, "need n = 3;");
        Check.rule(x, "!b");
        x.actor(0, 5, 1, 3);
        x.choice(0, 0, 0, 0);
        x.call(0, 0, 0, 0);
        x.call(0, 0, 0, 0);
        x.call(0, 1, 0, 0);
        Check.due("every", x.every(0, 12), -10);
        Check.due("row", x.row(0, 3), 1);
        Check.due("least", x.least(1, 0), 2);
        Check.due("breaks", x.breaks(1, 0), 1);
        Check.due("profit", x.profit(1, 0), 0);
        Check.due("holds", x.holds(0), 0);
        for (int k = 0; k < 2; k++) {
            Check.due("met(" + k + ", 0)", x.met(k, 0), 0);
            Check.due("met(" + k + ", 1)", x.met(k, 1), 0);
        }
        Check.due("none is KEPT", x.told(4), 0);
        // a ROW that is DRAWN and made LEAST: what only the ROWS on the way to that meet is not met
        InvariantSearch y = new InvariantSearch();
        Check.method(y, 0, "a = 1;");
        Check.method(y, 1, "need a; b = 1;");
        Check.rule(y, "!b");
        y.choice(0, 0, 0, 0);
        y.choice(0, 1, 0, 0);
        int seed = Drawing.seed(d -> d.number() % 2 == 0 && d.number() % 6 == 5 && d.number() % 2 == 0 && d.number() % 2 == 1);
        Check.due("draw", y.draw(0, seed, 1), 0);
        Check.rowDue(y, 0, 0, 1);
        Check.due("need a, met", y.met(1, 0), 1);
        Check.due("need a without it, tried for LEAST alone", y.met(1, 1), 0);
        // and a call that comes behind a draw does not meet any either
        y.call(0, 1, 0, 0);
        y.every(0, 3);
        Check.due("still not", y.met(1, 1), 0);
    }
}
