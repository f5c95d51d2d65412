/** Promises 1 to 23: each sentence that names an edge. */
final class EdgesOfPromises {
    private static final int BAD = InvariantSearch.BAD;
    private static final int NONE = InvariantSearch.NONE;
    private static final int FULL = InvariantSearch.FULL;
    private static final int NO_PROFIT = -2000000000;
    private static final int MILLION = 1000000;
    private static final int SPACES = 0x20202020;

    private EdgesOfPromises() {
    }

    static void test(Sentences s) {
        s.section("Promise 1: A new object");
        s.test("Empty TEXT, no METHODS, RULES, CHOICES, ROWS; ACTORS without MONEY and HOOKS; THE STATE that is told is"
                + " THE START.", EdgesOfPromises::newObject);
        s.section("Promise 2: feed");
        s.test("Sixteen bytes more of THE TEXT, the highest of each number first: how many it has.", EdgesOfPromises::feed);
        s.test("BAD: one is not 32 .. 126;", EdgesOfPromises::feedBad);
        s.test("FULL: they would be above 208.", EdgesOfPromises::feedFull);
        s.section("Promise 3: cut");
        s.test("The last n bytes of THE TEXT go: how many are left.", EdgesOfPromises::cut);
        s.test("BAD: n is below 0, or there are not so many.", EdgesOfPromises::cutBad);
        s.section("Promise 4: method");
        s.test("THE TEXT is METHOD k, 0 .. 5 (in place of what was): how many STATEMENTS.", EdgesOfPromises::method);
        s.test("BAD; a FAULT.", EdgesOfPromises::methodBad);
        s.section("Promise 5: rule");
        s.test("THE TEXT is a RULE more: its number.", EdgesOfPromises::rule);
        s.test("A FAULT;", EdgesOfPromises::ruleFault);
        s.test("FULL: 8.", EdgesOfPromises::ruleFull);
        ofActors(s);
        ofSearches(s);
        ofRows(s);
        ofMet(s);
    }

    private static void ofActors(Sentences s) {
        s.section("Promise 6: actor");
        s.test("An ACTOR has so much MONEY at THE START (0 .. 1000000), and a HOOK: METHOD k, 0 .. 5, with n"
                + " (-1000000 .. 1000000);", EdgesOfPromises::actor);
        s.test("k = -1: none (n does not matter): 1.", EdgesOfPromises::actorWithoutHook);
        s.test("BAD.", EdgesOfPromises::actorBad);
        s.test("(THE STATE that is told is THE START then.)", EdgesOfPromises::actorStart);
        s.section("Promise 7: call");
        s.test("A CALL in THE STATE that is told: 1; 0: it FAILS.", EdgesOfPromises::call);
        s.test("BAD: ACTOR, METHOD (0 .. 5), n (-1000000 .. 1000000), v (0 .. 1000000).", EdgesOfPromises::callBad);
        s.section("Promise 8: start");
        s.test("THE STATE that is told is THE START again: how many calls there were since then (also those that FAIL).",
                EdgesOfPromises::start);
        s.section("Promise 9: state");
        s.test("Of THE STATE that is told: what = 0 .. 5 CELLS a .. f, 6 .. 9 p of ACTORS, 10 .. 13 q, 14 .. 17 MONEY of"
                + " ACTORS, 18 h.", EdgesOfPromises::state);
        s.test("BAD.", EdgesOfPromises::stateBad);
        s.section("Promise 10: holds");
        s.test("A RULE in THE STATE that is told: 1; 0: it is BROKEN.", EdgesOfPromises::holds);
        s.test("BAD.", EdgesOfPromises::holdsBad);
    }

    private static void ofSearches(Sentences s) {
        s.section("Promise 11: choice");
        s.test("A CHOICE more: its number.", EdgesOfPromises::choice);
        s.test("BAD: as call();", EdgesOfPromises::choiceBad);
        s.test("FULL: 30.", EdgesOfPromises::choiceFull);
        s.section("Promise 12: fresh");
        s.test("There are no CHOICES, no ROWS, none KEPT any more, no LEAF was met: how many CHOICES there were.",
                EdgesOfPromises::fresh);
        s.section("Promise 13: every");
        s.test("EVERY ROW of so many calls at most (1 .. 12): 1: none BREAKS the RULE;", EdgesOfPromises::everyNone);
        s.test("else -10 less the number of a new ROW that does, the one that is told;", EdgesOfPromises::everyFound);
        s.test("NONE: nothing is known.", EdgesOfPromises::everyUnknown);
        s.test("BAD;", EdgesOfPromises::everyBad);
        s.test("FULL: 20 ROWS.", EdgesOfPromises::everyFull);
        s.section("Promise 14: states");
        s.test("How many STATES the latest every() has gone to, THE START with them (401: too many);", EdgesOfPromises::states);
        s.test("0 before.", EdgesOfPromises::statesBefore);
        s.section("Promise 15: draw");
        s.test("So many ROWS are DRAWN (1 .. 200), the first from x on, each further one from the x behind it, until one"
                + " BREAKS the RULE:", EdgesOfPromises::draw);
        s.test("the number of a new ROW, that made LEAST;", EdgesOfPromises::drawLeast);
        s.test("NONE: no one does.", EdgesOfPromises::drawNone);
        s.test("BAD: also if there are no CHOICES;", EdgesOfPromises::drawBad);
        s.test("FULL: 20 ROWS.", EdgesOfPromises::drawFull);
    }

    private static void ofRows(Sentences s) {
        s.section("Promise 16: row");
        s.test("A ROW of the CHOICES whose numbers are the lowest five bits of w, the next five, .. (n of them, 1 .. 12):"
                + " its number.", EdgesOfPromises::row);
        s.test("BAD: also no such CHOICE;", EdgesOfPromises::rowBad);
        s.test("FULL: 20 ROWS.", EdgesOfPromises::rowFull);
        s.section("Promise 17: least");
        s.test("A ROW made LEAST for a RULE is a new ROW: its number.", EdgesOfPromises::least);
        s.test("BAD;", EdgesOfPromises::leastBad);
        s.test("NONE: it does not BREAK it;", EdgesOfPromises::leastNone);
        s.test("FULL: 20 ROWS.", EdgesOfPromises::leastFull);
        s.section("Promise 18: at");
        s.test("CHOICE i of a ROW; i = -1: how many.", EdgesOfPromises::at);
        s.test("BAD.", EdgesOfPromises::atBad);
        s.section("Promise 19: breaks");
        s.test("At which of its calls, from 0, a ROW BREAKS a RULE;", EdgesOfPromises::breaks);
        s.test("NONE: at none.", EdgesOfPromises::breaksNone);
        s.test("BAD.", EdgesOfPromises::breaksBad);
        s.section("Promise 20: profit");
        s.test("How much more MONEY an ACTOR has behind a ROW than at THE START (all its calls done).", EdgesOfPromises::profit);
        s.test("BAD: -2000000000.", EdgesOfPromises::profitBad);
    }

    private static void ofMet(Sentences s) {
        s.section("Promise 21: met");
        s.test("LEAF l of METHOD k, from 0: 1 if a ROW DRAWN has met it, else 0.", EdgesOfPromises::met);
        s.test("BAD: none such.", EdgesOfPromises::metBad);
        s.section("Promise 22: kept");
        s.test("CHOICE i of KEPT one k; i = -1: how many.", EdgesOfPromises::kept);
        s.test("BAD.", EdgesOfPromises::keptBad);
        s.section("Promise 23: told");
        s.test("0 bytes of THE TEXT, 1 RULES, 2 CHOICES, 3 ROWS, 4 KEPT, 5 .. 10 LEAVES of METHODS 0 .. 5 (0: not told).",
                EdgesOfPromises::told);
        s.test("BAD.", EdgesOfPromises::toldBad);
        s.section("What it is");
        s.test("all short rows tried, each state once, with the shortest row that breaks or the proof that there is none;",
                EdgesOfPromises::shortest);
        s.test("An object is used for at most 512 calls after it has been made; what later calls answer is free.",
                EdgesOfPromises::manyCalls);
    }

    /** METHOD 0 adds n to a; so many CHOICES add 1; the RULES are a < 3, 1, 0. */
    private static InvariantSearch adder(int choices) {
        InvariantSearch x = new InvariantSearch();
        Check.method(x, 0, "a = a + n;");
        Check.rule(x, "a < 3");
        Check.rule(x, "1");
        Check.rule(x, "0");
        for (int i = 0; i < choices; i++) {
            x.choice(0, 0, 1, 0);
        }
        return x;
    }

    private static InvariantSearch adderWithRows(int rows) {
        InvariantSearch x = adder(1);
        for (int i = 0; i < rows; i++) {
            x.row(0, 4);
        }
        return x;
    }

    private static void newObject() {
        InvariantSearch x = new InvariantSearch();
        for (int what = 0; what <= 10; what++) {
            Check.due("told(" + what + ")", x.told(what), 0);
        }
        for (int what = 0; what <= 18; what++) {
            Check.due("state(" + what + ")", x.state(what), 0);
        }
        Check.due("no bytes to cut", x.cut(1), BAD);
        Check.due("no RULE", x.holds(0), BAD);
        Check.due("no ROW", x.at(0, -1), BAD);
        Check.due("no CHOICE", x.row(0, 1), BAD);
        Check.due("none KEPT", x.kept(0, -1), BAD);
        Check.due("no calls", x.start(), 0);
        for (int k = 0; k < 6; k++) {
            Check.due("no METHOD " + k, x.call(0, k, 0, 0), 0);
            Check.due("no LEAF of " + k, x.met(k, 0), BAD);
        }
        for (int k = 0; k < 6; k++) {
            Check.method(x, k, "a = a + 1; pay 0;");
        }
        for (int i = 0; i < 4; i++) {
            Check.due("no MONEY of " + i, x.call(i, 0, 0, 1), 0);
            x.start();
            x.call(i, 0, 0, 0);
            Check.due("no HOOK of " + i, x.state(0), 1);
        }
        InvariantSearch y = new InvariantSearch();
        Check.due("another object has its own TEXT", Check.rule(y, "1"), 0);
        Check.due("and its own RULES", x.told(1), 0);
    }

    private static void feed() {
        InvariantSearch x = new InvariantSearch();
        Check.due("sixteen", x.feed(0x61203d20, 0x31323334, 0x3b20623d, 0x393b2020), 16);
        Check.due("sixteen more", x.feed(0x633d373b, SPACES, SPACES, 0x643d363b), 32);
        Check.due("\"a = 1234; b=9;  c=7;        d=6;\"", x.method(0), 4);
        x.call(0, 0, 0, 0);
        int[] want = {1234, 9, 7, 6};
        for (int i = 0; i < 4; i++) {
            Check.due("CELL " + i, x.state(i), want[i]);
        }
        Check.due("from the beginning again", x.feed(SPACES, SPACES, SPACES, SPACES), 16);
    }

    private static void feedBad() {
        for (int place = 0; place < 16; place++) {
            for (int one : new int[] {0, 31, 32, 126, 127, 128, 160, 255}) {
                int[] four = {SPACES, SPACES, SPACES, SPACES};
                int shift = 24 - place % 4 * 8;
                four[place / 4] = four[place / 4] & ~(255 << shift) | one << shift;
                InvariantSearch x = new InvariantSearch();
                boolean isPlain = one == 32 || one == 126;
                String what = "byte " + one + " at " + place;
                Check.due(what, x.feed(four[0], four[1], four[2], four[3]), isPlain ? 16 : BAD);
                Check.due("THE TEXT behind " + what, x.told(0), isPlain ? 16 : 0);
            }
        }
    }

    private static void feedFull() {
        InvariantSearch x = new InvariantSearch();
        for (int length = 16; length <= 208; length += 16) {
            Check.due("up to " + length, x.feed(SPACES, SPACES, SPACES, SPACES), length);
        }
        Check.due("224", x.feed(SPACES, SPACES, SPACES, SPACES), FULL);
        Check.due("208 are there", x.told(0), 208);
        for (int cut = 1; cut <= 15; cut++) {
            Check.due("cut", x.cut(1), 208 - cut);
            Check.due("up to " + (224 - cut), x.feed(SPACES, SPACES, SPACES, SPACES), FULL);
        }
        Check.due("cut", x.cut(1), 192);
        Check.due("just 208", x.feed(SPACES, SPACES, SPACES, SPACES), 208);
    }

    private static void cut() {
        InvariantSearch x = new InvariantSearch();
        Check.due("0 of 0", x.cut(0), 0);
        Check.feed(x, "a=1;b=2;c=3;d=4;");
        Check.due("0 of 16", x.cut(0), 16);
        Check.due("4", x.cut(4), 12);
        Check.due("1", x.cut(1), 11);
        Check.due("4 + 4 + 3 are left: the end is the place", x.method(0), -21);
        Check.feed(x, "a=1;b=2;c=3;d=4;");
        Check.due("all", x.cut(16), 0);
        Check.due("nothing is left", x.method(0), 0);
        Check.feed(x, " ".repeat(208));
        Check.due("all of the most", x.cut(208), 0);
        Check.feed(x, "1" + " ".repeat(207));
        Check.due("all but one", x.cut(207), 1);
        Check.due("that is a RULE", x.rule(), 0);
    }

    private static void cutBad() {
        InvariantSearch x = new InvariantSearch();
        Check.due("1 of 0", x.cut(1), BAD);
        Check.due("-1 of 0", x.cut(-1), BAD);
        Check.feed(x, "a=1;b=2;c=3;d=4;");
        Check.due("17 of 16", x.cut(17), BAD);
        Check.due("-1 of 16", x.cut(-1), BAD);
        Check.due("-16", x.cut(-16), BAD);
        Check.due("209", x.cut(209), BAD);
        Check.due("the lowest", x.cut(Integer.MIN_VALUE), BAD);
        Check.due("the highest", x.cut(Integer.MAX_VALUE), BAD);
        Check.due("16 are there still", x.told(0), 16);
        Check.due("16 of 16", x.cut(16), 0);
    }

    private static void method() {
        InvariantSearch x = new InvariantSearch();
        for (int k = 0; k <= 5; k++) {
            Check.due("METHOD " + k, Check.method(x, k, "a = " + k + "; b = 7;"), 2);
        }
        for (int k = 0; k <= 5; k++) {
            Check.due("call", x.call(0, k, 0, 0), 1);
            Check.due("what METHOD " + k + " does", x.state(0), k);
        }
        Check.due("no STATEMENTS", x.method(0), 0);
        Check.due("in place of what was", x.call(0, 0, 0, 0), 1);
        Check.due("it does nothing", x.state(0), 5);
        Check.due("twelve", Check.method(x, 0, "a=8;".repeat(12)), 12);
        x.call(0, 0, 0, 0);
        Check.due("in place of that", x.state(0), 8);
        Check.due("within braces they count, too", Check.method(x, 0, "if 1{if 1{a=1;}}b=1;"), 4);
    }

    private static void methodBad() {
        InvariantSearch x = new InvariantSearch();
        Check.feed(x, "a = 1;");
        Check.due("-1", x.method(-1), BAD);
        Check.due("6", x.method(6), BAD);
        Check.due("the lowest", x.method(Integer.MIN_VALUE), BAD);
        Check.due("the highest", x.method(Integer.MAX_VALUE), BAD);
        Check.due("THE TEXT is there still", x.told(0), 6);
        Check.due("and is read by the next", x.method(5), 1);
        Check.due("a FAULT", Check.method(x, 5, "a = 2; b = ;"), -21);
        Check.due("a FAULT at the first byte", Check.method(x, 5, ";"), -10);
        Check.due("a FAULT at the end of 208 bytes", Check.method(x, 5, "a" + " ".repeat(207)), -218);
        Check.due("call", x.call(0, 5, 0, 0), 1);
        Check.due("METHOD 5 is what it was", x.state(0), 1);
    }

    private static void rule() {
        InvariantSearch x = new InvariantSearch();
        for (int i = 0; i < 8; i++) {
            Check.due("RULE " + i, Check.rule(x, "a = " + i), i);
        }
        Check.method(x, 0, "a = n;");
        for (int n = 0; n < 8; n++) {
            x.call(0, 0, n, 0);
            for (int i = 0; i < 8; i++) {
                Check.due("RULE " + i + " with a = " + n, x.holds(i), i == n ? 1 : 0);
            }
        }
    }

    private static void ruleFault() {
        InvariantSearch x = new InvariantSearch();
        Check.due("nothing", x.rule(), -10);
        Check.due("n", Check.rule(x, "1 < n"), -14);
        Check.due("no RULE comes of it", x.told(1), 0);
        Check.due("the next one is the first", Check.rule(x, "1"), 0);
        Check.due("a FAULT behind it", Check.rule(x, "1 <"), -13);
        Check.due("the next one is the second", Check.rule(x, "1"), 1);
    }

    private static void ruleFull() {
        InvariantSearch x = new InvariantSearch();
        for (int i = 0; i < 8; i++) {
            Check.due("RULE " + i, Check.rule(x, "1"), i);
        }
        Check.due("the ninth", Check.rule(x, "0"), FULL);
        Check.due("eight", x.told(1), 8);
        Check.due("the eighth", x.holds(7), 1);
        Check.due("no ninth", x.holds(8), BAD);
        x.fresh();
        Check.due("fresh() makes no room", Check.rule(x, "0"), FULL);
    }

    private static void actor() {
        for (int i = 0; i < 4; i++) {
            for (int money : new int[] {0, 1, MILLION}) {
                InvariantSearch x = new InvariantSearch();
                Check.due("ACTOR " + i + " with " + money, x.actor(i, money, -1, 0), 1);
                for (int other = 0; other < 4; other++) {
                    Check.due("MONEY of " + other, x.state(14 + other), other == i ? money : 0);
                }
            }
        }
        for (int k = 0; k < 6; k++) {
            for (int n : new int[] {-MILLION, 0, MILLION}) {
                InvariantSearch x = new InvariantSearch();
                Check.due("a HOOK: METHOD " + k + " with " + n, x.actor(1, 0, k, n), 1);
                Check.method(x, k, "a = n; b = b + 1;");
                Check.method(x, (k + 1) % 6, "pay 0;");
                x.call(1, (k + 1) % 6, 5, 0);
                Check.due("n of METHOD " + k, x.state(0), n);
                Check.due("once", x.state(1), 1);
                x.call(0, (k + 1) % 6, 5, 0);
                Check.due("no HOOK of another one", x.state(1), 1);
            }
        }
        InvariantSearch y = new InvariantSearch();
        y.actor(1, 5, 0, 0);
        y.actor(1, 6, -1, 0);
        Check.due("in place of what was", y.state(15), 6);
        Check.method(y, 0, "a = a + 1; pay 0;");
        y.call(1, 0, 0, 0);
        Check.due("the HOOK has gone", y.state(0), 1);
    }

    private static void actorWithoutHook() {
        for (int n : new int[] {Integer.MIN_VALUE, -MILLION - 1, -1, 0, MILLION + 1, Integer.MAX_VALUE}) {
            InvariantSearch x = new InvariantSearch();
            Check.method(x, 0, "a = a + 1; pay 0;");
            Check.due("n is " + n, x.actor(2, 7, -1, n), 1);
            Check.due("MONEY", x.state(16), 7);
            x.call(2, 0, 0, 0);
            Check.due("none is called back", x.state(0), 1);
        }
    }

    private static void actorBad() {
        InvariantSearch x = new InvariantSearch();
        x.actor(0, 5, -1, 0);
        int[][] bad = {{-1, 0, -1, 0}, {4, 0, -1, 0}, {0, -1, -1, 0}, {0, MILLION + 1, -1, 0}, {0, 0, -2, 0}, {0, 0, 6, 0},
            {0, 0, 0, -MILLION - 1}, {0, 0, 0, MILLION + 1}, {0, 0, 5, MILLION + 1}, {4, 0, 0, 0}, {0, -1, 0, 0}};
        for (int[] one : bad) {
            String what = java.util.Arrays.toString(one);
            Check.due(what, x.actor(one[0], one[1], one[2], one[3]), BAD);
            Check.due("MONEY is as it was behind " + what, x.state(14), 5);
        }
    }

    private static void actorStart() {
        InvariantSearch x = new InvariantSearch();
        Check.method(x, 0, "a = 1; p = 2; q = 3;");
        x.actor(0, 5, -1, 0);
        x.call(0, 0, 0, 4);
        Check.due("a refused one", x.actor(1, -1, -1, 0), BAD);
        Check.due("leaves it", x.state(18), 4);
        Check.due("one that changes nothing", x.actor(3, 0, -1, 0), 1);
        int[] want = {0, 0, 0, 0, 0, 0, 0, 0, 0, 0, 0, 0, 0, 0, 5, 0, 0, 0, 0};
        for (int what = 0; what < 19; what++) {
            Check.due("state(" + what + ")", x.state(what), want[what]);
        }
        Check.due("no calls since then", x.start(), 0);
    }

    private static void call() {
        InvariantSearch x = new InvariantSearch();
        Check.method(x, 0, "a = a + 1; need a < 3;");
        Check.due("first", x.call(0, 0, 0, 0), 1);
        Check.due("it goes on from there", x.call(3, 0, 0, 0), 1);
        Check.due("it FAILS", x.call(0, 0, 0, 0), 0);
        Check.due("a", x.state(0), 2);
        x.start();
        Check.due("from THE START", x.call(0, 0, 0, 0), 1);
        Check.due("a", x.state(0), 1);
    }

    private static void callBad() {
        InvariantSearch x = new InvariantSearch();
        Check.method(x, 0, "a = a + 1;");
        Check.method(x, 5, "a = a + 1;");
        for (int i = 0; i < 4; i++) {
            x.actor(i, MILLION, -1, 0);
        }
        int[][] good = {{0, 0, 0, 0}, {3, 0, 0, 0}, {0, 5, 0, 0}, {0, 0, -MILLION, 0}, {0, 0, MILLION, 0}, {1, 0, 0, MILLION}};
        for (int[] one : good) {
            Check.due(java.util.Arrays.toString(one), x.call(one[0], one[1], one[2], one[3]), 1);
        }
        for (int[] one : badCalls()) {
            Check.due(java.util.Arrays.toString(one), x.call(one[0], one[1], one[2], one[3]), BAD);
        }
        Check.due("those that are BAD do nothing", x.state(0), good.length);
        Check.due("and are not counted", x.start(), good.length);
    }

    private static int[][] badCalls() {
        return new int[][] {{-1, 0, 0, 0}, {4, 0, 0, 0}, {0, -1, 0, 0}, {0, 6, 0, 0}, {0, 0, -MILLION - 1, 0},
            {0, 0, MILLION + 1, 0}, {0, 0, 0, -1}, {0, 0, 0, MILLION + 1}};
    }

    private static void start() {
        InvariantSearch x = new InvariantSearch();
        Check.due("none", x.start(), 0);
        Check.method(x, 0, "a = a + 1; need n;");
        x.call(0, 0, 1, 0);
        Check.due("one", x.start(), 1);
        Check.due("a", x.state(0), 0);
        Check.due("none since then", x.start(), 0);
        x.call(0, 0, 1, 0);
        x.call(0, 0, 0, 0);
        x.call(0, 5, 0, 0);
        x.call(0, 0, 1, 1);
        x.call(0, 6, 0, 0);
        Check.due("those that FAIL, but none that is BAD", x.start(), 4);
        x.actor(0, 9, 0, 1);
        Check.method(x, 0, "pay 0;");
        Check.rule(x, "1");
        x.choice(0, 0, 1, 0);
        x.call(0, 0, 1, 0);
        x.row(0, 3);
        x.profit(0, 0);
        x.every(0, 3);
        x.draw(0, 1, 3);
        Check.due("neither those that are CALLED BACK, nor those of ROWS", x.start(), 1);
    }

    private static void state() {
        InvariantSearch x = new InvariantSearch();
        Check.method(x, 0, "a=1;b=2;c=3;d=4;e=5;f=6;p=n;q=n*2;");
        for (int i = 0; i < 4; i++) {
            x.actor(i, 100 * (i + 1), -1, 0);
        }
        for (int i = 0; i < 4; i++) {
            x.call(i, 0, 7 + i, i);
        }
        int[] want = {1, 2, 3, 4, 5, 6, 7, 8, 9, 10, 14, 16, 18, 20, 100, 199, 298, 397, 6};
        for (int what = 0; what < 19; what++) {
            Check.due("state(" + what + ")", x.state(what), want[what]);
        }
    }

    private static void stateBad() {
        InvariantSearch x = new InvariantSearch();
        for (int what : new int[] {-1, 19, -19, 20, Integer.MIN_VALUE, Integer.MAX_VALUE}) {
            Check.due("state(" + what + ")", x.state(what), BAD);
        }
        Check.due("state(18)", x.state(18), 0);
        Check.due("state(0)", x.state(0), 0);
    }

    private static void holds() {
        InvariantSearch x = adder(0);
        Check.due("a < 3", x.holds(0), 1);
        Check.due("1", x.holds(1), 1);
        Check.due("0", x.holds(2), 0);
        x.call(0, 0, 2, 0);
        Check.due("2 < 3", x.holds(0), 1);
        x.call(0, 0, 1, 0);
        Check.due("3 < 3", x.holds(0), 0);
        x.start();
        Check.due("0 < 3", x.holds(0), 1);
    }

    private static void holdsBad() {
        InvariantSearch x = new InvariantSearch();
        Check.due("there is none", x.holds(0), BAD);
        Check.rule(x, "1");
        Check.due("there is one", x.holds(0), 1);
        Check.due("not two", x.holds(1), BAD);
        Check.due("-1", x.holds(-1), BAD);
        Check.due("8", x.holds(8), BAD);
    }

    private static void choice() {
        InvariantSearch x = adder(0);
        Check.due("first", x.choice(0, 0, 1, 0), 0);
        Check.due("the same once more", x.choice(0, 0, 1, 0), 1);
        Check.due("one of a METHOD that was not told", x.choice(3, 5, -MILLION, MILLION), 2);
        Check.due("another", x.choice(0, 0, MILLION, 0), 3);
        Check.due("three", x.told(2), 4);
        int[] breaks = {NONE, NONE, NONE, 0};
        for (int i = 0; i < 4; i++) {
            x.row(i, 1);
            Check.due("what CHOICE " + i + " does", x.breaks(i, 0), breaks[i]);
        }
    }

    private static void choiceBad() {
        InvariantSearch x = adder(0);
        for (int[] one : badCalls()) {
            Check.due(java.util.Arrays.toString(one), x.choice(one[0], one[1], one[2], one[3]), BAD);
        }
        Check.due("none came of it", x.told(2), 0);
        Check.due("the lowest", x.choice(0, 0, -MILLION, 0), 0);
        Check.due("the highest", x.choice(3, 5, MILLION, MILLION), 1);
    }

    private static void choiceFull() {
        InvariantSearch x = adder(29);
        Check.due("the 30th", x.choice(0, 0, 5, 0), 29);
        Check.due("the 31st", x.choice(0, 0, 5, 0), FULL);
        Check.due("30", x.told(2), 30);
        Check.due("the 30th is there", x.row(29, 1), 0);
        Check.due("no 31st", x.row(30, 1), BAD);
    }

    private static void fresh() {
        InvariantSearch x = adder(30);
        Check.method(x, 1, "need 1;");
        Check.due("30", x.fresh(), 30);
        Check.due("0", x.fresh(), 0);
        x.choice(0, 1, 0, 0);
        x.row(0, 1);
        x.draw(1, 1, 1);
        x.call(0, 0, 2, 0);
        Check.due("something is met", x.met(1, 0), 1);
        Check.due("something is KEPT", x.told(4), 1);
        Check.due("1", x.fresh(), 1);
        Check.due("no CHOICES", x.told(2), 0);
        Check.due("no such CHOICE", x.row(0, 1), BAD);
        Check.due("no ROWS", x.told(3), 0);
        Check.due("no such ROW", x.at(0, -1), BAD);
        Check.due("none KEPT", x.told(4), 0);
        Check.due("no such KEPT one", x.kept(0, -1), BAD);
        Check.due("no LEAF was met", x.met(1, 0), 0);
        Check.due("METHODS stay", x.told(6), 2);
        Check.due("RULES stay", x.told(1), 3);
        Check.due("THE STATE that is told stays", x.state(0), 2);
        x.choice(0, 1, 0, 0);
        // from an odd number on a KEPT one would be begun with
        int odd = Drawing.seed(d -> d.number() % 2 == 1 && d.number() % 6 == 3);
        x.draw(1, odd, 1);
        Check.due("it begins with nothing", x.kept(0, -1), 4);
        InvariantSearch y = adderWithRows(20);
        Check.due("no room", y.row(0, 1), FULL);
        y.fresh();
        y.choice(0, 0, 1, 0);
        Check.due("room again", y.row(0, 1), 0);
    }

    private static void everyNone() {
        InvariantSearch x = adder(1);
        Check.due("1 call", x.every(0, 1), 1);
        Check.due("2 calls", x.every(0, 2), 1);
        Check.due("3 calls BREAK it", x.every(0, 3), -10);
        Check.due("1 call of a RULE that holds", x.every(1, 1), 1);
        Check.due("12 calls of a RULE that holds", x.every(1, 12), 1);
        Check.due("no new ROW of those", x.told(3), 1);
        InvariantSearch y = adder(0);
        Check.due("no CHOICES", y.every(2, 12), 1);
        Check.rule(y, "a < 12");
        y.choice(0, 0, 1, 0);
        Check.due("11 calls", y.every(3, 11), 1);
        Check.due("12 calls", y.every(3, 12), -10);
        Check.due("a ROW of 12", y.at(0, -1), 12);
    }

    private static void everyFound() {
        InvariantSearch x = adder(2);
        Check.due("ROW 0", x.every(0, 12), -10);
        Check.rowDue(x, 0, 0, 0, 0);
        Check.due("told", x.breaks(0, 0), 2);
        for (int i = 1; i < 20; i++) {
            Check.due("ROW " + i, x.every(2, 1 + i % 12), -10 - i);
        }
        Check.rowDue(x, 19, 0);
        Check.due("20", x.told(3), 20);
    }

    private static InvariantSearch many() {
        InvariantSearch x = new InvariantSearch();
        Check.method(x, 0, "a = a * 20 + n;");
        Check.rule(x, "1");
        Check.rule(x, "a < 20");
        for (int n = 1; n <= 20; n++) {
            x.choice(0, 0, n, 0);
        }
        return x;
    }

    private static void everyUnknown() {
        InvariantSearch x = many();
        Check.due("all of two calls", x.every(0, 2), 1);
        Check.due("all of three", x.every(0, 3), NONE);
        Check.due("all of twelve", x.every(0, 12), NONE);
        Check.due("no ROW", x.told(3), 0);
        Check.due("one that is BROKEN ahead of it is known", x.every(1, 12), -10);
    }

    private static void everyBad() {
        InvariantSearch x = adder(1);
        int[][] bad = {{-1, 1}, {3, 1}, {8, 1}, {0, 0}, {0, -1}, {0, 13}, {3, 13}};
        for (int[] one : bad) {
            Check.due("every(" + one[0] + ", " + one[1] + ")", x.every(one[0], one[1]), BAD);
        }
        Check.due("no ROW", x.told(3), 0);
        Check.due("none was gone to", x.states(), 0);
        Check.due("the lowest", x.every(0, 1), 1);
        Check.due("the highest", x.every(2, 12), -10);
    }

    private static void everyFull() {
        InvariantSearch x = adderWithRows(19);
        Check.due("the 20th", x.every(0, 12), -29);
        Check.due("no 21st", x.every(0, 12), FULL);
        Check.due("nor if there would be none", x.every(1, 12), FULL);
        Check.due("20", x.told(3), 20);
    }

    private static void states() {
        InvariantSearch x = many();
        x.every(0, 1);
        Check.due("THE START", x.states(), 1);
        x.every(0, 2);
        Check.due("20 more", x.states(), 21);
        x.every(0, 12);
        Check.due("too many", x.states(), 401);
        x.every(1, 12);
        Check.due("0 .. 19: the call to 20 BREAKS it", x.states(), 20);
        x.every(0, 13);
        x.every(2, 1);
        Check.due("refused ones are not the latest", x.states(), 20);
        x.row(0, 12);
        x.breaks(0, 0);
        x.draw(0, 1, 5);
        Check.due("nor what is not every()", x.states(), 20);
        x.fresh();
        Check.due("nor fresh()", x.states(), 20);
        x.every(0, 12);
        Check.due("no CHOICES: THE START", x.states(), 1);
        InvariantSearch y = new InvariantSearch();
        Check.method(y, 0, "a = a * 20 + n; need a < 400;");
        Check.rule(y, "1");
        for (int n = 1; n <= 20; n++) {
            y.choice(0, 0, n, 0);
        }
        y.every(0, 12);
        Check.due("the most", y.states(), 400);
    }

    private static void statesBefore() {
        InvariantSearch x = adder(1);
        Check.due("0", x.states(), 0);
        x.row(0, 3);
        x.breaks(0, 0);
        x.draw(1, 1, 5);
        x.every(0, 0);
        Check.due("0 still", x.states(), 0);
        InvariantSearch y = adderWithRows(20);
        y.every(0, 1);
        Check.due("0 behind one that is FULL", y.states(), 0);
    }

    /** CHOICE 29 adds 1 to a, all others nothing: rare are the ROWS with three of them; nothing is KEPT. */
    private static InvariantSearch rare() {
        InvariantSearch x = new InvariantSearch();
        Check.method(x, 0, "a = a + n;");
        Check.rule(x, "a < 2");
        for (int i = 0; i < 30; i++) {
            x.choice(0, 0, i == 29 ? 1 : 0, 0);
        }
        return x;
    }

    /** Which of the ROWS from a seed on is the first with two of CHOICE 29; 0: none of 201. */
    private static int firstOfRare(Drawing drawing) {
        for (int row = 1; row <= 201; row++) {
            int found = 0;
            for (int choice : drawing.row(30)) {
                found += choice == 29 ? 1 : 0;
            }
            if (found >= 2) {
                return row;
            }
        }
        return 0;
    }

    private static void draw() {
        for (int which : new int[] {1, 2, 3, 199, 200, 201}) {
            int seed = Drawing.seed(d -> firstOfRare(d) == which);
            InvariantSearch x = rare();
            if (which > 1) {
                Check.due("one too few for " + which, x.draw(0, seed, which - 1), NONE);
            }
            Check.due("ROWS up to " + which, x.draw(0, seed, which), which > 200 ? BAD : 0);
            if (which <= 200) {
                Check.rowDue(x, 0, 29, 29);
                Check.due("no more are needed", x.draw(0, seed, 200), 1);
            }
        }
        // it ends with the one that BREAKS the RULE: what comes behind it MEETS nothing
        InvariantSearch y = new InvariantSearch();
        Check.method(y, 0, "need 1;");
        Check.method(y, 1, "need 1;");
        Check.rule(y, "0");
        y.choice(0, 0, 0, 0);
        y.choice(0, 1, 0, 0);
        int first = Drawing.seed(d -> d.number() >= 0 && d.number() >= 0 && d.number() % 2 == 0);
        Check.due("draw", y.draw(0, first, 200), 0);
        Check.due("met", y.met(0, 0), 1);
        Check.due("not met", y.met(1, 0), 0);
    }

    private static void drawLeast() {
        InvariantSearch x = adder(1);
        x.choice(0, 0, 0, 0);
        for (int i = 0; i < 20; i++) {
            Check.due("ROW " + i, x.draw(0, i * 77, 200), i);
            Check.rowDue(x, i, 0, 0, 0);
        }
        InvariantSearch y = adder(2);
        Check.due("BROKEN from the first call on", y.draw(2, 5, 1), 0);
        Check.due("one call", y.at(0, -1), 1);
    }

    private static void drawNone() {
        InvariantSearch x = adder(1);
        Check.due("one", x.draw(1, 1, 1), NONE);
        Check.due("200", x.draw(1, 1, 200), NONE);
        Check.due("no new ROW", x.told(3), 0);
        // at most two calls: a < 3 holds
        int two = Drawing.seed(d -> d.number() >= 0 && d.number() % 6 == 1);
        Check.due("two calls", x.draw(0, two, 1), NONE);
        int three = Drawing.seed(d -> d.number() >= 0 && d.number() % 6 == 2);
        Check.due("three calls", x.draw(0, three, 1), 0);
    }

    private static void drawBad() {
        InvariantSearch x = adder(0);
        Check.due("no CHOICES", x.draw(0, 1, 1), BAD);
        x.choice(0, 0, 1, 0);
        Check.due("one CHOICE", x.draw(2, 1, 1), 0);
        int[][] bad = {{-1, 1}, {3, 1}, {0, 0}, {0, -1}, {0, 201}, {3, 201}};
        for (int[] one : bad) {
            Check.due("draw(" + one[0] + ", 1, " + one[1] + ")", x.draw(one[0], 1, one[1]), BAD);
        }
        Check.due("200", x.draw(1, 1, 200), NONE);
        for (int far : new int[] {Integer.MIN_VALUE, -1, 0, Integer.MAX_VALUE}) {
            Check.due("any x: " + far, x.draw(1, far, 1), NONE);
        }
        x.fresh();
        Check.due("no CHOICES any more", x.draw(1, 1, 1), BAD);
    }

    private static void drawFull() {
        InvariantSearch x = adderWithRows(19);
        Check.due("the 20th", x.draw(2, 1, 1), 19);
        Check.due("no 21st", x.draw(2, 1, 1), FULL);
        Check.due("nor if no one would do", x.draw(1, 1, 1), FULL);
        Check.method(x, 0, "need 1;");
        Check.due("no room", x.draw(1, 1, 1), FULL);
        Check.due("so none is DRAWN", x.met(0, 0), 0);
    }

    private static void row() {
        InvariantSearch x = adder(30);
        Check.due("1", x.row(29, 1), 0);
        Check.rowDue(x, 0, 29);
        int[] twelve = {29, 0, 1, 28, 16, 15, 8, 7, 4, 3, 2, 29};
        Check.due("12", x.row(Check.word(twelve), 12), 1);
        Check.rowDue(x, 1, twelve);
        // bits above those of n calls do not matter, up to the sign
        Check.due("with all bits above", x.row(Check.word(twelve) | -1L << 60, 12), 2);
        Check.rowDue(x, 2, twelve);
        Check.due("with 31 behind", x.row(Check.word(5, 6, 31, 31), 2), 3);
        Check.rowDue(x, 3, 5, 6);
        Check.due("the highest at each place", x.row(Check.word(29, 29, 29, 29, 29, 29, 29, 29, 29, 29, 29, 29), 12), 4);
        Check.rowDue(x, 4, 29, 29, 29, 29, 29, 29, 29, 29, 29, 29, 29, 29);
        Check.due("none of w is left", x.row(0L, 12), 5);
        Check.rowDue(x, 5, 0, 0, 0, 0, 0, 0, 0, 0, 0, 0, 0, 0);
    }

    private static void rowBad() {
        InvariantSearch x = adder(2);
        for (int n : new int[] {0, -1, 13, Integer.MIN_VALUE, Integer.MAX_VALUE}) {
            Check.due("n is " + n, x.row(0, n), BAD);
        }
        for (int place = 0; place < 12; place++) {
            Check.due("CHOICE 2 at " + place, x.row(2L << 5 * place, 12), BAD);
            Check.due("CHOICE 31 at " + place, x.row(31L << 5 * place, 12), BAD);
            if (place > 0) {
                Check.due("it does not matter behind n", x.row(31L << 5 * place, place), place - 1);
            }
        }
        Check.due("CHOICE 1 is the last one", x.row(1, 1), 11);
        Check.due("all bits", x.row(-1L, 1), BAD);
        InvariantSearch y = adder(30);
        Check.due("CHOICE 30", y.row(30, 1), BAD);
        Check.due("CHOICE 31", y.row(31, 1), BAD);
        Check.due("CHOICE 29", y.row(29, 1), 0);
    }

    private static void rowFull() {
        InvariantSearch x = adderWithRows(19);
        Check.due("the 20th", x.row(0, 1), 19);
        Check.due("the 21st", x.row(0, 1), FULL);
        Check.due("20", x.told(3), 20);
        Check.due("the 20th is there", x.at(19, -1), 1);
        Check.due("no 21st", x.at(20, -1), BAD);
    }

    private static void least() {
        InvariantSearch x = adder(2);
        x.row(0, 12);
        x.row(0, 3);
        Check.due("a new ROW", x.least(0, 0), 2);
        Check.rowDue(x, 2, 0, 0, 0);
        Check.due("a new one though it is the same", x.least(1, 0), 3);
        Check.rowDue(x, 3, 0, 0, 0);
        Check.due("one call", x.least(0, 2), 4);
        Check.rowDue(x, 4, 0);
        Check.due("the ROW itself stays", x.at(0, -1), 12);
    }

    private static void leastBad() {
        InvariantSearch x = adderWithRows(1);
        int[][] bad = {{-1, 0}, {1, 0}, {20, 0}, {0, -1}, {0, 3}, {0, 8}, {1, 3}};
        for (int[] one : bad) {
            Check.due("least(" + one[0] + ", " + one[1] + ")", x.least(one[0], one[1]), BAD);
        }
        Check.due("no new ROW", x.told(3), 1);
        Check.due("the last RULE", x.least(0, 2), 1);
    }

    private static void leastNone() {
        InvariantSearch x = adder(1);
        x.row(0, 2);
        x.row(0, 3);
        Check.due("a call too few", x.least(0, 0), NONE);
        Check.due("just enough", x.least(1, 0), 2);
        Check.due("a RULE that holds", x.least(1, 1), NONE);
        Check.due("no new ROW", x.told(3), 3);
    }

    private static void leastFull() {
        InvariantSearch x = adderWithRows(19);
        Check.due("the 20th", x.least(0, 0), 19);
        Check.due("the 21st", x.least(0, 0), FULL);
        Check.due("nor of one that does not BREAK it", x.least(0, 1), FULL);
    }

    private static void at() {
        InvariantSearch x = adder(30);
        x.row(29, 1);
        int[] twelve = {0, 1, 2, 3, 4, 5, 6, 7, 8, 9, 10, 11};
        x.row(Check.word(twelve), 12);
        Check.due("how many: 1", x.at(0, -1), 1);
        Check.due("the first", x.at(0, 0), 29);
        Check.due("how many: 12", x.at(1, -1), 12);
        for (int i = 0; i < 12; i++) {
            Check.due("CHOICE " + i, x.at(1, i), i);
        }
    }

    private static void atBad() {
        InvariantSearch x = adder(2);
        Check.due("no ROW", x.at(0, -1), BAD);
        x.row(1, 1);
        x.row(0, 12);
        int[][] bad = {{-1, 0}, {-1, -1}, {2, -1}, {2, 0}, {20, -1}, {0, 1}, {0, -2}, {1, 12}, {1, -2}, {0, 12}};
        for (int[] one : bad) {
            Check.due("at(" + one[0] + ", " + one[1] + ")", x.at(one[0], one[1]), BAD);
        }
        Check.due("the last of 12", x.at(1, 11), 0);
    }

    private static void breaks() {
        InvariantSearch x = adder(1);
        Check.rule(x, "a < 12");
        x.row(0, 12);
        Check.due("at the first", x.breaks(0, 2), 0);
        Check.due("at the third", x.breaks(0, 0), 2);
        Check.due("at the last", x.breaks(0, 3), 11);
    }

    private static void breaksNone() {
        InvariantSearch x = adder(1);
        Check.rule(x, "a < 13");
        x.row(0, 12);
        x.row(0, 2);
        Check.due("a RULE that holds", x.breaks(0, 1), NONE);
        Check.due("12 < 13", x.breaks(0, 3), NONE);
        Check.due("2 < 3", x.breaks(1, 0), NONE);
    }

    private static void breaksBad() {
        InvariantSearch x = adderWithRows(1);
        int[][] bad = {{-1, 0}, {1, 0}, {20, 0}, {0, -1}, {0, 3}, {0, 8}, {1, 3}};
        for (int[] one : bad) {
            Check.due("breaks(" + one[0] + ", " + one[1] + ")", x.breaks(one[0], one[1]), BAD);
        }
        Check.due("the last RULE", x.breaks(0, 2), 0);
    }

    private static void profit() {
        InvariantSearch x = new InvariantSearch();
        Check.method(x, 0, "");
        Check.method(x, 1, "pay h;");
        Check.rule(x, "h < 1");
        for (int i = 0; i < 4; i++) {
            x.actor(i, MILLION, -1, 0);
            x.choice(i, 0, 0, MILLION);
            x.choice(i, 1, 0, 0);
        }
        // CHOICE 2 i is paid in by ACTOR i, 2 i + 1 pays all to it
        x.row(Check.word(0, 2, 4, 6, 1), 5);
        Check.due("the most", x.profit(0, 0), 3 * MILLION);
        for (int i = 1; i < 4; i++) {
            Check.due("the least", x.profit(0, i), -MILLION);
        }
        x.row(Check.word(0, 1), 2);
        Check.due("as much as before", x.profit(1, 0), 0);
        Check.due("another one", x.profit(1, 3), 0);
        x.row(Check.word(6, 1), 2);
        Check.due("it is BROKEN at the first", x.breaks(2, 0), 0);
        Check.due("but all calls are done", x.profit(2, 0), MILLION);
        x.row(Check.word(6, 6), 2);
        Check.due("one that FAILS", x.profit(3, 3), -MILLION);
        x.call(3, 0, 0, MILLION);
        Check.due("from THE START", x.profit(2, 0), MILLION);
        x.actor(3, 5, -1, 0);
        Check.due("from THE START as it is now: CHOICE 6 FAILS", x.profit(2, 0), 0);
    }

    private static void profitBad() {
        InvariantSearch x = adderWithRows(1);
        int[][] bad = {{-1, 0}, {1, 0}, {20, 0}, {0, -1}, {0, 4}, {1, 4}};
        for (int[] one : bad) {
            Check.due("profit(" + one[0] + ", " + one[1] + ")", x.profit(one[0], one[1]), NO_PROFIT);
        }
        Check.due("the last ACTOR", x.profit(0, 3), 0);
        InvariantSearch y = new InvariantSearch();
        Check.due("no ROW", y.profit(0, 0), NO_PROFIT);
    }

    private static void met() {
        InvariantSearch x = new InvariantSearch();
        Check.rule(x, "1");
        for (int k = 0; k < 6; k++) {
            Check.method(x, k, k % 2 == 0 ? "need 1;" : "need 0;");
        }
        for (int k = 0; k < 6; k++) {
            x.fresh();
            x.choice(0, k, 0, 0);
            Check.due("not yet: " + k, x.met(k, k % 2), 0);
            x.draw(0, k, 1);
            for (int other = 0; other < 6; other++) {
                Check.due("METHOD " + other + ", not 0", x.met(other, 0), other == k && k % 2 == 0 ? 1 : 0);
                Check.due("METHOD " + other + ", 0", x.met(other, 1), other == k && k % 2 == 1 ? 1 : 0);
            }
        }
        Check.method(x, 0, "need 1;".repeat(11) + "need 0;");
        x.fresh();
        x.choice(0, 0, 0, 0);
        x.draw(0, 1, 1);
        Check.due("the last but one", x.met(0, 22), 0);
        Check.due("the last", x.met(0, 23), 1);
        Check.due("it stays", x.draw(0, 5, 1), NONE);
        Check.due("the last still", x.met(0, 23), 1);
    }

    private static void metBad() {
        InvariantSearch x = new InvariantSearch();
        for (int k = -1; k <= 6; k++) {
            Check.due("none told: " + k, x.met(k, 0), BAD);
        }
        Check.method(x, 0, "need 1;");
        Check.method(x, 1, "a = 1;");
        Check.method(x, 5, "need 1;".repeat(12));
        int[][] bad = {{0, -1}, {0, 2}, {0, 24}, {0, 32}, {1, 0}, {1, -1}, {2, 0}, {5, -1}, {5, 24}, {5, 32}, {-1, 0}, {6, 0}};
        for (int[] one : bad) {
            Check.due("met(" + one[0] + ", " + one[1] + ")", x.met(one[0], one[1]), BAD);
        }
        Check.due("the last", x.met(5, 23), 0);
        Check.due("the last of METHOD 0", x.met(0, 1), 0);
        Check.method(x, 5, "need 1;");
        Check.due("it is no more", x.met(5, 2), BAD);
    }

    private static void kept() {
        InvariantSearch x = new InvariantSearch();
        Check.method(x, 0, "need 1;");
        Check.rule(x, "1");
        for (int i = 0; i < 30; i++) {
            x.choice(0, 0, 0, 0);
        }
        int seed = Drawing.seed(d -> d.number() % 2 == 0 && d.number() % 6 == 5 && d.number() % 30 == 29);
        int[] row = new Drawing(seed).row(30);
        x.draw(0, seed, 1);
        Check.due("how many", x.kept(0, -1), 6);
        Check.due("the first", x.kept(0, 0), 29);
        for (int i = 0; i < 6; i++) {
            Check.due("CHOICE " + i, x.kept(0, i), row[i]);
        }
        for (int k = 1; k < 8; k++) {
            Check.method(x, 0, "need 1;");
            x.draw(0, seed, 1);
            Check.due("KEPT one " + k, x.kept(k, -1), 6);
        }
    }

    private static void keptBad() {
        InvariantSearch x = new InvariantSearch();
        Check.method(x, 0, "need 1;");
        Check.rule(x, "1");
        x.choice(0, 0, 0, 0);
        Check.due("none", x.kept(0, -1), BAD);
        int seed = Drawing.seed(d -> d.number() % 2 == 0 && d.number() % 6 == 2);
        x.draw(0, seed, 1);
        int[][] bad = {{-1, -1}, {-1, 0}, {1, -1}, {1, 0}, {8, -1}, {0, 3}, {0, -2}, {0, 12}};
        for (int[] one : bad) {
            Check.due("kept(" + one[0] + ", " + one[1] + ")", x.kept(one[0], one[1]), BAD);
        }
        Check.due("the last of three", x.kept(0, 2), 0);
    }

    private static void told() {
        InvariantSearch x = new InvariantSearch();
        Check.feed(x, "1".repeat(208));
        Check.due("bytes: the most", x.told(0), 208);
        x.cut(207);
        Check.due("bytes", x.told(0), 1);
        x.rule();
        Check.due("bytes: none", x.told(0), 0);
        for (int i = 1; i < 8; i++) {
            Check.due("RULES", x.told(1), i);
            Check.rule(x, "1");
        }
        Check.due("RULES: the most", x.told(1), 8);
        for (int k = 0; k < 6; k++) {
            Check.due("METHOD " + k + " is not told", x.told(5 + k), 0);
            Check.method(x, k, "need 1;".repeat(k == 5 ? 12 : k));
            Check.due("LEAVES of " + k, x.told(5 + k), k == 5 ? 24 : 2 * k);
        }
        Check.due("a FAULT", Check.method(x, 1, "if 1{"), -15);
        Check.due("LEAVES are as they were", x.told(6), 2);
        Check.method(x, 1, "if 1{if 1{}}a=1;pay 1;");
        Check.due("two of each if", x.told(6), 4);
        for (int i = 0; i < 30; i++) {
            Check.due("CHOICES", x.told(2), i);
            x.choice(0, 5, 0, 0);
        }
        Check.due("CHOICES: the most", x.told(2), 30);
        for (int i = 0; i < 20; i++) {
            Check.due("ROWS", x.told(3), i);
            x.row(0, 12);
        }
        Check.due("ROWS: the most", x.told(3), 20);
        Check.due("KEPT", x.told(4), 0);
        x.fresh();
        x.choice(0, 5, 0, 0);
        for (int i = 0; i < 8; i++) {
            x.draw(0, i, 1);
            Check.due("KEPT", x.told(4), i + 1);
            Check.method(x, 5, "need 1;");
        }
        x.draw(0, 9, 1);
        Check.due("KEPT: the most", x.told(4), 8);
    }

    private static void toldBad() {
        InvariantSearch x = new InvariantSearch();
        for (int what : new int[] {-1, 11, 12, Integer.MIN_VALUE, Integer.MAX_VALUE}) {
            Check.due("told(" + what + ")", x.told(what), BAD);
        }
        Check.due("told(10)", x.told(10), 0);
        Check.due("told(0)", x.told(0), 0);
    }

    private static void shortest() {
        InvariantSearch x = new InvariantSearch();
        Check.method(x, 0, "a = a + n; need a < 20;");
        Check.rule(x, "a < 19");
        Check.rule(x, "a < 20");
        x.choice(0, 0, 1, 0);
        x.choice(0, 0, 5, 0);
        x.choice(0, 0, 3, 0);
        Check.due("5 + 5 + 5 + 3 is one less", x.every(0, 4), 1);
        Check.due("1 + 5 + 5 + 5 + 3", x.every(0, 12), -10);
        Check.rowDue(x, 0, 0, 1, 1, 1, 2);
        Check.due("the proof", x.every(1, 12), 1);
        Check.due("0 .. 19, each once", x.states(), 20);
    }

    private static void manyCalls() {
        InvariantSearch x = many();
        // 3 calls told its METHOD, 6 its RULES, 20 its CHOICES; then the dearest ones there are, up to the 512th
        for (int i = 30; i <= 510; i++) {
            Check.due("every, call " + i, x.every(0, 12), NONE);
        }
        Check.due("the 511th", x.every(1, 12), -10);
        Check.due("the 512th", x.states(), 20);
        InvariantSearch y = new InvariantSearch();
        for (int i = 0; i < 511; i++) {
            y.call(0, 0, 0, 0);
        }
        Check.due("all of them are counted", y.start(), 511);
    }
}
