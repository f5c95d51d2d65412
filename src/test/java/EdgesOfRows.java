/** Terms, 3 ROWS, up to LEAST: each sentence that names an edge. */
final class EdgesOfRows {
    private static final int BAD = InvariantSearch.BAD;
    private static final int NONE = InvariantSearch.NONE;
    private static final int FULL = InvariantSearch.FULL;

    private EdgesOfRows() {
    }

    static void test(Sentences s) {
        s.test("CHOICES are CALLS, 30 at most, numbered as they came.", EdgesOfRows::choices);
        s.test("A ROW is one of up to 12 CHOICES, done from THE START.", EdgesOfRows::row);
        s.test("It BREAKS a RULE at the first of its calls behind which that is BROKEN.", EdgesOfRows::breaks);
        s.test("(THE START itself does not matter.)", EdgesOfRows::startDoesNotMatter);
        s.test("from THE START, STATES are gone through in the order in which they came, each with all CHOICES in order:",
                EdgesOfRows::everyOrder);
        s.test("if the RULE is BROKEN behind that call: the ROW to it is told, and that is all.", EdgesOfRows::everyFound);
        s.test("Else the STATE behind it is one more, if it was not there yet, and the ROW to it has fewer calls"
                + " than there may be.", EdgesOfRows::everyOneMore);
        s.test("With a 401st STATE nothing is known.", EdgesOfRows::everyTooMany);
        s.test("LEAST, a ROW that BREAKS a RULE: the calls behind that at which it does go;", EdgesOfRows::leastBehind);
        s.test("then, from the last one to the first one, each call goes without which what is left still BREAKS the RULE"
                + " (the calls behind where that does go, too);", EdgesOfRows::leastOrder);
        s.test("and so on from the last one, until none went in a whole turn.", EdgesOfRows::leastTurns);
    }

    /** METHOD 0 adds n to a; the RULES are given. */
    private static InvariantSearch adder(String... rules) {
        InvariantSearch x = new InvariantSearch();
        Check.method(x, 0, "a = a + n;");
        for (String rule : rules) {
            Check.yes("it is a RULE: " + rule, Check.rule(x, rule) >= 0);
        }
        return x;
    }

    private static void choose(InvariantSearch x, int... numbers) {
        for (int n : numbers) {
            x.choice(0, 0, n, 0);
        }
    }

    private static void choices() {
        InvariantSearch x = adder("a < 29");
        for (int i = 0; i < 30; i++) {
            Check.due("CHOICE " + i, x.choice(0, 0, i, 0), i);
        }
        Check.due("the 31st", x.choice(0, 0, 30, 0), FULL);
        Check.due("told", x.told(2), 30);
        Check.due("the last one", x.row(29, 1), 0);
        Check.due("the one ahead of it", x.row(28, 1), 1);
        Check.due("what the last one does", x.breaks(0, 0), 0);
        Check.due("what the one ahead of it does", x.breaks(1, 0), NONE);
        Check.due("fresh", x.fresh(), 30);
        Check.due("numbered anew", x.choice(0, 0, 0, 0), 0);
        Check.due("one that is there already", x.choice(0, 0, 0, 0), 1);
    }

    private static void row() {
        InvariantSearch x = adder("a < 12", "a < 11", "a < 2");
        choose(x, 1);
        Check.due("1", x.row(0, 1), 0);
        Check.due("12", x.row(0, 12), 1);
        Check.due("13", x.row(0, 13), BAD);
        Check.due("0", x.row(0, 0), BAD);
        Check.due("at the last of 12", x.breaks(1, 0), 11);
        Check.due("at the 11th", x.breaks(1, 1), 10);
        x.call(0, 0, 5, 0);
        Check.due("done from THE START, not from what is told", x.breaks(1, 1), 10);
        Check.due("done from THE START each time", x.breaks(1, 1), 10);
        Check.due("a ROW leaves what is told", x.state(0), 5);
        Check.due("every: 12 at most", x.every(0, 12), -12);
        Check.due("12 calls", x.at(2, -1), 12);
        Check.due("every: 11 are too few", x.every(0, 11), 1);
    }

    private static void breaks() {
        InvariantSearch x = adder("a < 3", "!(a = 1)", "a", "!(a = 2)", "10 / (a - 2) < 100");
        choose(x, 1, -1, 0);
        x.row(Check.word(0, 0, 0, 1, 0, 0), 6);
        Check.due("a < 3: first of several", x.breaks(0, 0), 2);
        Check.due("at the first call", x.breaks(0, 1), 0);
        Check.due("a is never 0 behind a call", x.breaks(0, 2), NONE);
        Check.due("it does not matter that it holds again", x.breaks(0, 3), 1);
        Check.due("one that can't be reckoned", x.breaks(0, 4), 1);
        x.row(Check.word(0, 0, 0), 3);
        Check.due("at the last call", x.breaks(1, 0), 2);
        x.row(Check.word(0, 0), 2);
        Check.due("a call too few", x.breaks(2, 0), NONE);
        x.row(Check.word(0, 1, 0), 3);
        Check.due("in between", x.breaks(3, 2), 1);
    }

    private static void startDoesNotMatter() {
        InvariantSearch x = adder("a", "0", "1 / a");
        Check.method(x, 1, "need 0;");
        choose(x, 1, -1);
        x.choice(0, 1, 0, 0);
        Check.due("it is BROKEN in THE START", x.holds(0), 0);
        x.row(0, 1);
        Check.due("but not behind the call", x.breaks(0, 0), NONE);
        Check.due("nor one that can't be reckoned there", x.breaks(0, 2), NONE);
        x.row(2, 1);
        Check.due("behind a call that FAILS, THE START matters", x.breaks(1, 0), 0);
        x.row(Check.word(0, 1), 2);
        Check.due("and when it comes again", x.breaks(2, 0), 1);
        Check.due("every: behind a call that FAILS", x.every(0, 1), -13);
        Check.rowDue(x, 3, 2);
        Check.due("so with more calls, though that STATE was there", x.every(0, 12), -14);
        Check.rowDue(x, 4, 2);
        InvariantSearch back = adder("a");
        choose(back, 1, -1);
        Check.due("every: when it comes again", back.every(0, 12), -10);
        Check.rowDue(back, 0, 0, 1);
        InvariantSearch y = adder("a", "0");
        choose(y, 1, 2);
        Check.due("every does not look at THE START", y.every(0, 12), 1);
        Check.due("not even for a RULE that never holds", y.every(1, 1), -10);
        Check.rowDue(y, 0, 0);
        InvariantSearch z = adder("0");
        Check.due("every without CHOICES", z.every(0, 12), 1);
        InvariantSearch u = adder("a");
        choose(u, 1);
        Check.due("draw", u.draw(0, 3, 200), NONE);
    }

    private static void everyOrder() {
        InvariantSearch x = adder("a < 4", "!(a = 5)", "1");
        choose(x, 1, 2, 3);
        Check.due("a < 4", x.every(0, 12), -10);
        Check.rowDue(x, 0, 0, 2);
        Check.due("0, 1, 2, 3", x.states(), 4);
        Check.due("a = 5", x.every(1, 12), -11);
        Check.rowDue(x, 1, 1, 2);
        Check.due("0, 1, 2, 3, 4", x.states(), 5);
        InvariantSearch y = adder("a < 4", "!(a = 5)");
        choose(y, 3, 2, 1);
        Check.due("a < 4", y.every(0, 12), -10);
        Check.rowDue(y, 0, 0, 0);
        Check.due("a = 5", y.every(1, 12), -11);
        Check.rowDue(y, 1, 0, 1);
        Check.due("0, 3, 2, 1, 6", y.states(), 5);
        // the ROW to a STATE is the one by which it came first: 3 came by 1 + 2, not by 2 + 1
        InvariantSearch z = adder("!(a = 9)");
        choose(z, 1, 2, 6);
        Check.due("a = 9", z.every(0, 12), -10);
        Check.rowDue(z, 0, 0, 1, 2);
        InvariantSearch u = adder("!(a = 9)");
        choose(u, 2, 1, 6);
        Check.due("a = 9", u.every(0, 12), -10);
        Check.rowDue(u, 0, 0, 1, 2);
    }

    private static void everyFound() {
        InvariantSearch x = adder("a < 1", "a < 2", "!(a = 7)");
        choose(x, 0, 7, 1, 2);
        Check.due("the first CHOICE that does", x.every(0, 12), -10);
        Check.rowDue(x, 0, 1);
        Check.due("THE START alone: the call that BREAKS it leads to no STATE more", x.states(), 1);
        Check.due("one new ROW, not one more", x.told(3), 1);
        Check.due("a RULE that is BROKEN where calls may not be more", x.every(2, 1), -11);
        Check.rowDue(x, 1, 1);
        // a STATE that is BROKEN is told though the last of so many calls leads to it
        InvariantSearch y = adder("a < 2", "a < 3");
        choose(y, 1);
        Check.due("two calls", y.every(0, 2), -10);
        Check.due("0, 1", y.states(), 2);
        Check.due("three calls are needed", y.every(1, 2), 1);
        // a call back within, and one that FAILS
        InvariantSearch z = new InvariantSearch();
        Check.method(z, 0, "pay 0; need 0;");
        Check.method(z, 1, "pay 0;");
        Check.method(z, 2, "a = 1;");
        Check.rule(z, "!a");
        z.actor(0, 0, 2, 0);
        z.choice(0, 0, 0, 0);
        z.choice(0, 1, 0, 0);
        Check.due("a call back BREAKS it", z.every(0, 1), -10);
        Check.rowDue(z, 0, 1);
    }

    private static void everyOneMore() {
        InvariantSearch x = adder("1", "a < 11");
        choose(x, 1, 1, 0);
        for (int calls = 1; calls <= 12; calls++) {
            Check.due("calls " + calls, x.every(0, calls), 1);
            Check.due("STATES of fewer calls than " + calls, x.states(), calls);
        }
        Check.due("11 calls do it", x.every(1, 11), -10);
        Check.due("0 .. 10", x.states(), 11);
        Check.due("so they do in 12", x.every(1, 12), -11);
        Check.due("10 are too few", x.every(1, 10), 1);
        InvariantSearch y = adder("1");
        Check.method(y, 1, "need 0; b = 1;");
        y.choice(0, 1, 0, 0);
        y.choice(0, 5, 0, 0);
        y.choice(0, 0, 0, 1);
        Check.due("calls that FAIL", y.every(0, 12), 1);
        Check.due("lead to no STATE more", y.states(), 1);
        InvariantSearch z = adder("1");
        choose(z, 1, -1);
        Check.due("1", z.every(0, 4), 1);
        Check.due("0, 1, -1, 2, -2, 3, -3: each once", z.states(), 7);
        Check.due("again", z.every(0, 4), 1);
        Check.due("and it begins anew", z.states(), 7);
    }

    /** The STATES come as 0, 1, 2, 3, ..: of so many CHOICES, CHOICE n - 1 makes many a + n of a. */
    private static InvariantSearch counter(int many, String need, String... rules) {
        InvariantSearch x = new InvariantSearch();
        Check.method(x, 0, "a = a * " + many + " + n; " + need);
        for (String rule : rules) {
            Check.rule(x, rule);
        }
        for (int n = 1; n <= many; n++) {
            x.choice(0, 0, n, 0);
        }
        return x;
    }

    private static void everyTooMany() {
        InvariantSearch x = counter(20, "need a < 400;", "1");
        Check.due("400", x.every(0, 12), 1);
        Check.due("400", x.states(), 400);
        InvariantSearch y = counter(20, "need a < 401;", "1", "a < 400", "a < 399");
        Check.due("401", y.every(0, 12), NONE);
        Check.due("401", y.states(), 401);
        Check.due("no ROW", y.told(3), 0);
        Check.due("the call to the 401st BREAKS it", y.every(1, 12), -10);
        Check.rowDue(y, 0, 18, 19);
        Check.due("400 were gone to", y.states(), 400);
        Check.due("the call to the 400th BREAKS it", y.every(2, 12), -11);
        Check.rowDue(y, 1, 18, 18);
        Check.due("399 were gone to", y.states(), 399);
        InvariantSearch z = counter(20, "", "1", "!(a = 401)");
        Check.due("with two calls, those of one are STATES", z.every(0, 2), 1);
        Check.due("21", z.states(), 21);
        Check.due("with three, all of two", z.every(0, 3), NONE);
        Check.due("401", z.states(), 401);
        Check.due("what lies behind the 401st is not known", z.every(1, 3), NONE);
        Check.due("but if it is no STATE, it is", z.every(1, 2), -10);
        Check.rowDue(z, 0, 19, 0);
        // the same with longer ROWS: the late STATES are gone through, too
        InvariantSearch u = counter(5, "need a < 400;", "1", "a < 399", "a < 300");
        Check.due("400", u.every(0, 12), 1);
        Check.due("400", u.states(), 400);
        Check.due("the call to the 400th BREAKS it", u.every(1, 12), -10);
        Check.rowDue(u, 0, 1, 4, 3, 3);
        Check.due("399 were gone to", u.states(), 399);
        Check.due("the call to the 301st BREAKS it", u.every(2, 12), -11);
        Check.rowDue(u, 1, 1, 0, 3, 4);
        Check.due("300 were gone to", u.states(), 300);
        // STATES are told from one another whatever else is in them
        for (int money = 1; money <= 20; money++) {
            InvariantSearch v = counter(20, "need a < 400;", "1");
            v.actor(money % 4, money * 31, -1, 0);
            Check.due("400", v.every(0, 12), 1);
            Check.due("400", v.states(), 400);
        }
        InvariantSearch t = counter(5, "need a < 401;", "1", "a < 400");
        Check.due("401", t.every(0, 12), NONE);
        Check.due("401", t.states(), 401);
        Check.due("the call to the 401st BREAKS it", t.every(1, 12), -10);
        Check.rowDue(t, 0, 1, 4, 3, 4);
    }

    private static void leastBehind() {
        InvariantSearch x = adder("a < 1", "a < 12", "a");
        choose(x, 1, -1);
        x.row(0, 12);
        Check.due("BREAKS at the first", x.least(0, 0), 1);
        Check.rowDue(x, 1, 0);
        Check.due("BREAKS at the last", x.least(0, 1), 2);
        Check.due("all are needed", x.at(2, -1), 12);
        Check.due("the ROW itself stays", x.at(0, -1), 12);
        x.row(Check.word(0, 1, 0, 1), 4);
        // what stands behind the first time does not help to make it less
        Check.due("BREAKS at the second", x.least(3, 2), 4);
        Check.rowDue(x, 4, 0, 1);
    }

    private static void leastOrder() {
        InvariantSearch x = new InvariantSearch();
        Check.method(x, 0, "c = 1;");
        Check.method(x, 1, "d = 1;");
        Check.method(x, 2, "need c | d; b = 1;");
        Check.rule(x, "!b");
        for (int k = 0; k < 3; k++) {
            x.choice(0, k, 0, 0);
        }
        x.row(Check.word(0, 1, 2), 3);
        Check.due("the later of two goes", x.least(0, 0), 1);
        Check.rowDue(x, 1, 0, 2);
        x.row(Check.word(1, 0, 1, 0, 2), 5);
        Check.due("all but the first", x.least(2, 0), 3);
        Check.rowDue(x, 3, 1, 2);
        // 2 - 3 + 3 + 3: without the -3 it BREAKS at the first 3, so the second one goes, and 2 is needed
        InvariantSearch y = adder("a < 5");
        choose(y, 2, -3, 3);
        y.row(Check.word(0, 1, 2, 2), 4);
        Check.due("the calls behind go, too", y.least(0, 0), 1);
        Check.rowDue(y, 1, 0, 2);
        y.row(Check.word(2, 2), 2);
        Check.due("nothing goes", y.least(2, 0), 3);
        Check.rowDue(y, 3, 2, 2);
        InvariantSearch z = adder("0");
        choose(z, 1);
        z.row(0, 1);
        Check.due("one call is not made none", z.least(0, 0), 1);
        Check.rowDue(z, 1, 0);
    }

    /**
     * CHOICE i - 1 is X i, 1 .. 11: they have to come without a gap up to the last one, or not at all.
     * So in a turn just the first one can go.
     */
    private static void leastTurns() {
        InvariantSearch x = new InvariantSearch();
        Check.method(x, 0, "c = (a = n - 1) | !a; a = c * n + !c * 99;");
        Check.method(x, 1, "need !a | (a = 11); b = 1;");
        Check.rule(x, "!b");
        for (int n = 1; n <= 11; n++) {
            x.choice(0, 0, n, 0);
        }
        x.choice(0, 1, 0, 0);
        x.row(Check.word(0, 1, 2, 3, 4, 5, 6, 7, 8, 9, 10, 11), 12);
        Check.due("it BREAKS it", x.breaks(0, 0), 11);
        Check.due("a turn for each call", x.least(0, 0), 1);
        Check.rowDue(x, 1, 11);
        x.row(Check.word(9, 10, 11), 3);
        Check.due("two turns", x.least(2, 0), 3);
        Check.rowDue(x, 3, 11);
        // with all but the first one it is not BROKEN: a turn in which none goes is the last
        x.row(Check.word(10, 11), 2);
        Check.due("one turn", x.least(4, 0), 5);
        Check.rowDue(x, 5, 11);
        Check.due("it is least already", x.least(5, 0), 6);
        Check.rowDue(x, 6, 11);
    }
}
