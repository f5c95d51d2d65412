/** Terms, 2 WHAT IS: each sentence that names an edge. */
final class EdgesOfCalls {
    private static final int MILLION = 1000000;
    private static final int NONE = InvariantSearch.NONE;

    private EdgesOfCalls() {
    }

    static void test(Sentences s) {
        s.test("CELLS a .. f are of the contract; p and q are there for each ACTOR 0 .. 3.", EdgesOfCalls::cells);
        s.test("MONEY is the contract's (h) and each ACTOR's (m0 .. m3).", EdgesOfCalls::moneys);
        s.test("A STATE is all of these.", EdgesOfCalls::state);
        s.test("THE START: all 0, but the MONEY of ACTORS as told.", EdgesOfCalls::start);
        s.test("v goes from the ACTOR's MONEY to h (it FAILS, if the ACTOR has less);", EdgesOfCalls::money);
        s.test("then the STATEMENTS, one by one.", EdgesOfCalls::oneByOne);
        s.test("In them w is the ACTOR's number, p and q are its own, P and Q those of all ACTORS added.", EdgesOfCalls::own);
        s.test("need E: the call FAILS, if E is 0.", EdgesOfCalls::need);
        s.test("CELL = E: it becomes E.", EdgesOfCalls::assignment);
        s.test("pay E: E goes from h to the ACTOR's MONEY (it FAILS, if E is below 0 or above h);", EdgesOfCalls::pay);
        s.test("then, if the ACTOR has a HOOK (a METHOD and an n), and fewer than 3 calls are under way, it CALLS BACK:",
                EdgesOfCalls::underWay);
        s.test("that METHOD, with that n, v being 0.", EdgesOfCalls::callBack);
        s.test("if E: what stands within the braces is done, if E is not 0.", EdgesOfCalls::branch);
        s.test("< and = are 1 or 0;", EdgesOfCalls::comparisons);
        s.test("& and | are 1 or 0 (of what is not 0; both sides are reckoned);", EdgesOfCalls::andOr);
        s.test("! is 1 of 0, else 0;", EdgesOfCalls::not);
        s.test("/ cuts off toward 0.", EdgesOfCalls::division);
        s.test("The call FAILS, if / has 0 on its right, or a number that comes of an operation, or of P, Q,"
                + " is not - 10^9 .. 10^9.", EdgesOfCalls::outside);
        s.test("A call that FAILS changes nothing: all since it began is as it was; it is over then.", EdgesOfCalls::failing);
        s.test("One that was CALLED BACK and FAILS does not matter to the one that paid: that goes on behind its pay.",
                EdgesOfCalls::failingCallBack);
        s.test("(A METHOD that was not told FAILS.)", EdgesOfCalls::notTold);
        s.test("A RULE is BROKEN in a STATE, if it is 0 there, or if it can't be reckoned (as a call FAILS).",
                EdgesOfCalls::brokenRule);
        s.test("LEAVES: of each need and each if, by METHODS and in their order, two: that its E was not 0, that it was.",
                EdgesOfCalls::leaves);
        s.test("A call MEETS them, also one that FAILS, or was CALLED BACK.", EdgesOfCalls::meeting);
    }

    private static InvariantSearch with(String method0) {
        InvariantSearch x = new InvariantSearch();
        Check.yes("it is a METHOD: " + method0, Check.method(x, 0, method0) >= 0);
        return x;
    }

    private static void statesDue(InvariantSearch x, int... want) {
        for (int what = 0; what < want.length; what++) {
            Check.due("state(" + what + ")", x.state(what), want[what]);
        }
    }

    private static void cells() {
        InvariantSearch x = with("a=a+1;b=b+2;c=c+3;d=d+4;e=e+5;f=f+6;p=p+7;q=q+8;");
        for (int i = 0; i < 4; i++) {
            for (int times = 0; times <= i; times++) {
                x.call(i, 0, 0, 0);
            }
        }
        statesDue(x, 10, 20, 30, 40, 50, 60, 7, 14, 21, 28, 8, 16, 24, 32);
        Check.due("no ACTOR 4", x.call(4, 0, 0, 0), InvariantSearch.BAD);
        Check.due("no ACTOR -1", x.call(-1, 0, 0, 0), InvariantSearch.BAD);
    }

    private static void moneys() {
        InvariantSearch x = with("");
        for (int i = 0; i < 4; i++) {
            x.actor(i, 100 + i, -1, 0);
            Check.rule(x, "m" + i + " = " + (90 + i));
        }
        Check.rule(x, "h = 40");
        Check.rule(x, "m0 + m1 + m2 + m3 + h = 406");
        for (int i = 0; i < 4; i++) {
            Check.due("m" + i + " ahead", x.holds(i), 0);
            x.call(i, 0, 0, 10);
            Check.due("m" + i + " behind", x.holds(i), 1);
            Check.due("h", x.holds(4), i == 3 ? 1 : 0);
            Check.due("none is lost", x.holds(5), 1);
        }
    }

    private static void oneByOne() {
        InvariantSearch x = with("a=a*10+1;a=a*10+2;a=a*10+3;if 1{a=a*10+4;a=a*10+5;}a=a*10+6;b=a;a=b+0;");
        Check.due("no STATEMENTS at all", x.method(1), 0);
        x.call(0, 0, 0, 0);
        statesDue(x, 123456, 123456);
        x.call(0, 1, 0, 0);
        statesDue(x, 123456, 123456);
        Check.method(x, 2, "a=a+1;".repeat(12));
        x.start();
        x.call(0, 2, 0, 0);
        Check.due("the twelfth, too", x.state(0), 12);
    }

    /** Each of the 19 numbers alone makes another STATE. */
    private static void state() {
        for (String cell : new String[] {"a", "b", "c", "d", "e", "f", "p", "q"}) {
            for (int i = 0; i < 4; i++) {
                InvariantSearch x = with(cell + " = n;");
                Check.rule(x, "1");
                x.choice(i, 0, 1, 0);
                x.choice(i, 0, 2, 0);
                x.every(0, 2);
                Check.due(cell + " by ACTOR " + i, x.states(), 3);
            }
        }
        InvariantSearch x = with("");
        Check.rule(x, "1");
        for (int i = 0; i < 4; i++) {
            x.actor(i, 5, -1, 0);
            x.choice(i, 0, 0, 5);
        }
        x.every(0, 2);
        Check.due("MONEY of each of four", x.states(), 5);
    }

    private static void start() {
        InvariantSearch x = with("a=n;b=n;c=n;d=n;e=n;f=n;p=n;q=n;");
        for (int i = 0; i < 4; i++) {
            x.actor(i, i == 3 ? MILLION : i * 10, -1, 0);
        }
        for (int i = 0; i < 4; i++) {
            x.call(i, 0, -7, i);
        }
        x.start();
        statesDue(x, 0, 0, 0, 0, 0, 0, 0, 0, 0, 0, 0, 0, 0, 0, 0, 10, 20, MILLION, 0);
    }

    private static void money() {
        InvariantSearch x = with("a = a + 1;");
        x.actor(1, 7, -1, 0);
        Check.due("one less than v", x.call(1, 0, 0, 8), 0);
        statesDue(x, 0, 0, 0, 0, 0, 0, 0, 0, 0, 0, 0, 0, 0, 0, 0, 7, 0, 0, 0);
        Check.due("just v", x.call(1, 0, 0, 7), 1);
        statesDue(x, 1, 0, 0, 0, 0, 0, 0, 0, 0, 0, 0, 0, 0, 0, 0, 0, 0, 0, 7);
        Check.due("nothing is left", x.call(1, 0, 0, 1), 0);
        Check.due("0 of nothing", x.call(1, 0, 0, 0), 1);
        Check.due("the most", x.actor(0, MILLION, -1, 0), 1);
        Check.due("all of the most", x.call(0, 0, 0, MILLION), 1);
        Check.due("h", x.state(18), MILLION);
        for (int i = 1; i < 4; i++) {
            x.actor(i, MILLION, -1, 0);
        }
        for (int i = 0; i < 4; i++) {
            x.call(i, 0, 0, MILLION);
        }
        Check.due("the most that h can be", x.state(18), 4 * MILLION);
        Check.method(x, 1, "a = v; b = h;");
        x.start();
        x.call(2, 1, 0, 9);
        Check.due("v goes ahead of the STATEMENTS", x.state(1), 9);
    }

    private static void own() {
        InvariantSearch x = with("p = n; q = n * 2; a = w; b = P; c = Q;");
        int sum = 0;
        for (int i = 0; i < 4; i++) {
            int n = i == 0 ? 1 : i == 1 ? 10 : i == 2 ? 100 : 1000;
            sum += n;
            x.call(i, 0, n, 0);
            Check.due("w of " + i, x.state(0), i);
            Check.due("p of " + i, x.state(6 + i), n);
            Check.due("q of " + i, x.state(10 + i), 2 * n);
            Check.due("P behind " + i, x.state(1), sum);
            Check.due("Q behind " + i, x.state(2), 2 * sum);
        }
    }

    private static void need() {
        InvariantSearch x = with("a = a + 1; need n; b = b + 1;");
        Check.due("0", x.call(0, 0, 0, 0), 0);
        Check.due("1", x.call(0, 0, 1, 0), 1);
        Check.due("-1", x.call(0, 0, -1, 0), 1);
        Check.due("the lowest", x.call(0, 0, -MILLION, 0), 1);
        statesDue(x, 3, 3);
    }

    private static void assignment() {
        InvariantSearch x = with("a = n; a = a * 1000; b = a; a = a / 1000;");
        x.call(0, 0, MILLION, 0);
        statesDue(x, MILLION, 1000 * MILLION);
        x.call(0, 0, -MILLION, 0);
        statesDue(x, -MILLION, -1000 * MILLION);
        x.call(0, 0, 0, 0);
        statesDue(x, 0, 0);
        String[] cells = {"a", "b", "c", "d", "e", "f", "p", "q"};
        for (int i = 0; i < 4; i++) {
            for (int cell = 0; cell < 8; cell++) {
                int place = cell < 6 ? cell : cell == 6 ? 6 + i : 10 + i;
                justDue(cells[cell] + " = n;", i, place);
                justDue("if 1 { " + cells[cell] + " = n; }", i, place);
                justDue("if 0 { " + cells[cell] + " = n; }", i, -1);
            }
        }
        for (int ahead = 0; ahead < 12; ahead++) {
            justDue("a=a;".repeat(ahead) + "if 1{}", ahead % 4, -1);
            justDue("need 1;".repeat(ahead) + "if 0{}", ahead % 4, -1);
        }
        // only pay calls back
        InvariantSearch y = with("a = 1; p = 1; q = 1; need 1; if 1 { } if 0 { }");
        Check.method(y, 1, "b = b + 1;");
        y.actor(0, 0, 1, 0);
        y.call(0, 0, 0, 0);
        Check.due("none is called back", y.state(1), 0);
    }

    /** Of a STATE in which nothing is 0, a call with n = -5 changes just the number at one place; -1: none. */
    private static void justDue(String method, int actor, int place) {
        InvariantSearch x = with("a=1;b=2;c=3;d=4;e=5;f=6;p=7+w;q=17+w;");
        Check.method(x, 1, method);
        for (int i = 0; i < 4; i++) {
            x.actor(i, 100, -1, 0);
        }
        for (int i = 0; i < 4; i++) {
            x.call(i, 0, 0, 10 + i);
        }
        Check.due(method, x.call(actor, 1, -5, 0), 1);
        int[] want = {1, 2, 3, 4, 5, 6, 7, 8, 9, 10, 17, 18, 19, 20, 90, 89, 88, 87, 46};
        for (int what = 0; what < 19; what++) {
            Check.due("state(" + what + ") behind " + method, x.state(what), what == place ? -5 : want[what]);
        }
    }

    private static void pay() {
        InvariantSearch x = with("pay n;");
        x.actor(2, 10, -1, 0);
        Check.due("0 of 0", x.call(2, 0, 0, 0), 1);
        Check.due("1 of 0", x.call(2, 0, 1, 0), 0);
        Check.due("-1 of 0", x.call(2, 0, -1, 0), 0);
        Check.due("0 of 5", x.call(2, 0, 0, 5), 1);
        Check.due("one above h", x.call(2, 0, 6, 0), 0);
        Check.due("below 0", x.call(2, 0, -1, 0), 0);
        statesDue(x, 0, 0, 0, 0, 0, 0, 0, 0, 0, 0, 0, 0, 0, 0, 0, 0, 5, 0, 5);
        Check.due("all of h", x.call(2, 0, 5, 0), 1);
        statesDue(x, 0, 0, 0, 0, 0, 0, 0, 0, 0, 0, 0, 0, 0, 0, 0, 0, 10, 0, 0);
        x.call(2, 0, 0, 10);
        Check.due("to the one that calls", x.call(3, 0, 10, 0), 1);
        Check.due("m3", x.state(17), 10);
        InvariantSearch y = with("pay n * 1000;");
        Check.due("10^9", y.call(0, 0, MILLION, 0), 0);
        Check.due("-10^9", y.call(0, 0, -MILLION, 0), 0);
        InvariantSearch z = with("");
        Check.method(z, 1, "pay h;");
        for (int i = 0; i < 4; i++) {
            z.actor(i, MILLION, -1, 0);
        }
        for (int i = 0; i < 4; i++) {
            z.call(i, 0, 0, MILLION);
        }
        z.call(3, 1, 0, 0);
        Check.due("the most that an ACTOR can have", z.state(17), 4 * MILLION);
        Check.due("h", z.state(18), 0);
    }

    private static void underWay() {
        InvariantSearch x = with("a = a + 1; pay 0;");
        x.call(0, 0, 0, 0);
        Check.due("without a HOOK", x.state(0), 1);
        x.actor(0, 0, 0, 0);
        x.call(0, 0, 0, 0);
        Check.due("three calls, and no fourth", x.state(0), 3);
        x.call(0, 0, 0, 0);
        Check.due("three more", x.state(0), 6);
        x.call(1, 0, 0, 0);
        Check.due("the HOOK of another one", x.state(0), 7);
        InvariantSearch y = with("a = a + 1; pay 0; pay 0;");
        y.actor(3, 0, 0, 0);
        y.call(3, 0, 0, 0);
        Check.due("one that is over is not under way: 1 + 2 + 4", y.state(0), 7);
        InvariantSearch z = with("pay 0; pay 0; pay 0; c = 1; pay 0;");
        Check.method(z, 1, "need c; d = d + 1;");
        z.actor(0, 0, 1, 0);
        z.call(0, 0, 0, 0);
        Check.due("one that FAILED is not under way", z.state(3), 1);
        InvariantSearch u = with("pay n;");
        Check.method(u, 1, "b = b + 1;");
        u.actor(0, 5, 1, 0);
        u.call(0, 0, 0, 0);
        Check.due("a pay of 0 does it, too", u.state(1), 1);
    }

    private static void callBack() {
        for (int n : new int[] {-MILLION, -1, 0, MILLION}) {
            for (int k = 1; k < 6; k++) {
                InvariantSearch x = with("pay 0; b = n; c = v;");
                Check.method(x, k, "d = n; e = v; f = h; p = w; q = " + k + ";");
                x.actor(3, 9, k, n);
                Check.due("call", x.call(3, 0, 4, 9), 1);
                statesDue(x, 0, 4, 9, n, 0, 9, 0, 0, 0, 3, 0, 0, 0, k, 0, 0, 0, 0, 9);
            }
        }
        InvariantSearch y = with("pay 3; a = a * 10 + 2;");
        Check.method(y, 1, "a = a * 10 + 1; b = h;");
        y.actor(0, 9, 1, 0);
        y.call(0, 0, 0, 9);
        Check.due("it comes behind the pay and ahead of the rest", y.state(0), 12);
        Check.due("it is paid by then", y.state(1), 6);
    }

    private static void branch() {
        InvariantSearch x = with("if n { a = a + 1; } b = b + 1;");
        x.call(0, 0, 0, 0);
        statesDue(x, 0, 1);
        x.call(0, 0, 1, 0);
        statesDue(x, 1, 2);
        x.call(0, 0, -1, 0);
        statesDue(x, 2, 3);
        InvariantSearch y = with("if n { } if n { if v { a = 1; } b = 1; } c = 1;");
        Check.due("nothing within the braces", y.call(0, 0, 1, 0), 1);
        statesDue(y, 0, 1, 1);
    }

    private static void comparisons() {
        Check.valueDue("4<5", 1);
        Check.valueDue("5<5", 0);
        Check.valueDue("6<5", 0);
        Check.valueDue("-1<0", 1);
        Check.valueDue("-5<-4", 1);
        Check.valueDue("4=5", 0);
        Check.valueDue("5=5", 1);
        Check.valueDue("6=5", 0);
        Check.valueDue("-5=5", 0);
        Check.valueDue("-999999999-1<999999999+1", 1);
        Check.valueDue("999999999+1<-999999999-1", 0);
        Check.valueDue("999999999+1=999999999+1", 1);
        Check.failureDue("999999999+2=999999999+2");
        Check.failureDue("0<1/0");
    }

    private static void andOr() {
        int[][] pairs = {{0, 0}, {0, 1}, {1, 0}, {1, 1}, {2, 4}, {-1, 1}, {-3, 0}, {0, -3}};
        for (int[] pair : pairs) {
            String left = "(" + pair[0] + ")";
            String right = "(" + pair[1] + ")";
            Check.valueDue(left + "&" + right, pair[0] != 0 && pair[1] != 0 ? 1 : 0);
            Check.valueDue(left + "|" + right, pair[0] != 0 || pair[1] != 0 ? 1 : 0);
        }
        Check.failureDue("0&1/0");
        Check.failureDue("0&(1/0)");
        Check.failureDue("(1/0)&0");
        Check.failureDue("1|1/0");
        Check.failureDue("1|(999999999+2)");
        Check.failureDue("(1/0)|1");
    }

    private static void not() {
        Check.valueDue("!0", 1);
        Check.valueDue("!1", 0);
        Check.valueDue("!2", 0);
        Check.valueDue("!-1", 0);
        Check.valueDue("!(-1)", 0);
        Check.valueDue("!999999999", 0);
        Check.valueDue("!!7", 1);
        Check.failureDue("!(1/0)");
    }

    private static void division() {
        Check.valueDue("7/2", 3);
        Check.valueDue("-7/2", -3);
        Check.valueDue("7/-2", -3);
        Check.valueDue("-7/-2", 3);
        Check.valueDue("1/2", 0);
        Check.valueDue("-1/2", 0);
        Check.valueDue("6/-2", -3);
        Check.valueDue("0/-5", 0);
        Check.valueDue("999999999/1", 999999999);
        Check.valueDue("(-999999999-1)/-1", 1000000000);
    }

    private static void outside() {
        Check.failureDue("1/0");
        Check.failureDue("0/0");
        Check.failureDue("5/(2-2)");
        Check.valueDue("5/(2-1)", 5);
        Check.valueDue("999999999+1", 1000000000);
        Check.failureDue("999999999+2");
        Check.valueDue("-999999999-1", -1000000000);
        Check.failureDue("-999999999-2");
        Check.valueDue("31250*32000", 1000000000);
        Check.valueDue("-31250*32000", -1000000000);
        Check.failureDue("7*142857143");
        Check.failureDue("-7*142857143");
        Check.valueDue("-(999999999+1)", -1000000000);
        Check.valueDue("-(-999999999-1)", 1000000000);
        // what comes back into the room was outside it all the same
        Check.failureDue("999999999+2-2");
        Check.failureDue("999999999*2/2");
        Check.failureDue("0*(999999999+2)");
        // numbers that an int would hold as 0 or 1, and that a long would
        Check.failureDue("65536*65536");
        Check.failureDue("65536*65536+1");
        Check.failureDue("999999999*999999999*999999999");
        addedUp("p", "P");
        addedUp("q", "Q");
    }

    /** p or q of four ACTORS, and what comes of them added. */
    private static void addedUp(String own, String all) {
        int[][] rows = {{500, 500, 0, 0, 1}, {500, 500, 0, 1, 0}, {1000, 0, 0, 0, 1}, {1000, 0, 1, 0, 0},
            {-500, 0, -500, 0, 1}, {-500, -1, -500, 0, 0}, {-1000, 0, 0, 0, 1}, {0, 0, -1, -1000, 0},
            {1000, 1000, -1000, 0, 1}, {-1000, -1000, 0, 1000, 1}, {1000, 1000, 1000, 1000, 0},
            {-1000, -1000, -1000, -1000, 0}};
        for (int[] row : rows) {
            InvariantSearch x = new InvariantSearch();
            // 1 and -1 stand for themselves, all others for millions
            Check.method(x, 0, own + " = n * 1000 * 1000;");
            Check.method(x, 1, own + " = n;");
            Check.method(x, 2, "a = 1; b = " + all + "; b = 0;");
            Check.rule(x, all + " = " + all);
            for (int i = 0; i < 4; i++) {
                boolean isSmall = Math.abs(row[i]) == 1;
                Check.due("told", x.call(i, isSmall ? 1 : 0, row[i], 0), 1);
            }
            String what = all + " of " + java.util.Arrays.toString(row);
            Check.due("a call with " + what, x.call(0, 2, 0, 0), row[4]);
            Check.due("and what it did", x.state(0), row[4]);
            Check.due("a RULE with " + what, x.holds(0), row[4]);
        }
    }

    private static void failing() {
        String all = "a=1;b=1;c=1;d=1;e=1;f=1;p=1;q=1;pay 3;";
        for (String end : new String[] {"need 0;", "pay h + 1;", "pay -1;", "a = 1/0;", "a = 999999999+2;", "if 1/0 {}"}) {
            InvariantSearch x = with(all + end);
            Check.method(x, 1, "a=7;p=7;f=n;");
            x.actor(0, 20, 1, 9);
            x.call(0, 1, 5, 10);
            Check.due("it FAILS by " + end, x.call(0, 0, 0, 4), 0);
            statesDue(x, 7, 0, 0, 0, 0, 5, 7, 0, 0, 0, 0, 0, 0, 0, 10, 0, 0, 0, 10);
            Check.due("and again", x.call(0, 0, 0, 4), 0);
            Check.due("the next one begins anew", x.call(0, 1, 6, 0), 1);
            statesDue(x, 7, 0, 0, 0, 0, 6, 7, 0, 0, 0, 0, 0, 0, 0, 10, 0, 0, 0, 10);
        }
        InvariantSearch y = with("need n; a = a + 1; if n { need n - 1; a = a + 1; } a = a + 1;");
        Check.due("it is over at the first", y.call(0, 0, 0, 0), 0);
        Check.due("it is over within braces", y.call(0, 0, 1, 0), 0);
        Check.due("a", y.state(0), 0);
        Check.due("it is done", y.call(0, 0, 2, 0), 1);
        Check.due("a", y.state(0), 3);
    }

    private static void failingCallBack() {
        for (String end : new String[] {"need 0;", "pay h + 1;", "pay -1;", "a = 1/0;", "a = 999999999+2;", "need 1+2*(3+4*(1/0));"}) {
            InvariantSearch x = with("a = 1; pay 2; b = 1+2*(3+4*5); pay 3; c = c + 1;");
            Check.method(x, 1, "a=9;b=9;c=9;p=9;q=9;" + end);
            x.actor(2, 20, 1, 0);
            Check.due("the one that paid, " + end, x.call(2, 0, 0, 12), 1);
            statesDue(x, 1, 47, 1, 0, 0, 0, 0, 0, 0, 0, 0, 0, 0, 0, 0, 0, 13, 0, 7);
        }
        // one that FAILS deep within its E, and one that goes on with as deep an E
        InvariantSearch deep = with("pay 0; a = " + "0<1+2*(".repeat(8) + "0<1+2*3" + ")".repeat(8) + ";");
        Check.method(deep, 1, "b = " + "0<1+2*(".repeat(8) + "0<1+2*c/c" + ")".repeat(8) + ";");
        deep.actor(0, 0, 1, 0);
        Check.due("the one that paid", deep.call(0, 0, 0, 0), 1);
        Check.due("a", deep.state(0), 1);
        InvariantSearch y = with("pay 1; a = a + 1; need h;");
        y.actor(0, 9, 0, 0);
        Check.due("of three, the third one FAILS", y.call(0, 0, 0, 3), 1);
        statesDue(y, 2, 0, 0, 0, 0, 0, 0, 0, 0, 0, 0, 0, 0, 0, 8, 0, 0, 0, 1);
        Check.due("all of three are done", y.call(0, 0, 0, 3), 1);
        Check.due("a", y.state(0), 5);
        InvariantSearch z = with("pay 1; a = 1; need n;");
        Check.method(z, 1, "b = 1;");
        z.actor(0, 9, 1, 0);
        Check.due("one that was called back goes with the one that paid", z.call(0, 0, 0, 3), 0);
        statesDue(z, 0, 0, 0, 0, 0, 0, 0, 0, 0, 0, 0, 0, 0, 0, 9, 0, 0, 0, 0);
    }

    private static void notTold() {
        InvariantSearch x = new InvariantSearch();
        x.actor(0, 5, -1, 0);
        for (int k = 0; k < 6; k++) {
            Check.due("METHOD " + k, x.call(0, k, 0, 5), 0);
            Check.due("m0", x.state(14), 5);
            Check.due("h", x.state(18), 0);
        }
        Check.due("one of no STATEMENTS is told", x.method(3), 0);
        Check.due("it does not FAIL", x.call(0, 3, 0, 5), 1);
        Check.due("h", x.state(18), 5);
        Check.due("a FAULT tells none", Check.method(x, 4, "need 1"), -16);
        Check.due("METHOD 4", x.call(0, 4, 0, 0), 0);
        Check.method(x, 5, "pay 1; a = a + 1;");
        x.actor(0, 5, 2, 0);
        Check.due("a HOOK that was not told", x.call(0, 5, 0, 5), 1);
        Check.due("a", x.state(0), 1);
        Check.due("m0", x.state(14), 1);
    }

    private static void brokenRule() {
        InvariantSearch x = with("a = n;");
        String[] rules = {"a", "10/a", "a*1000+999999999-999999998", "a*1000*100/100000", "a<1", "!a"};
        for (String rule : rules) {
            Check.rule(x, rule);
        }
        int[][] due = {{0, 0, 0, 1, 0, 1, 1}, {1, 1, 1, 0, 1, 0, 0}, {-1, 1, 1, 1, 1, 1, 0}, {10, 1, 1, 0, 1, 0, 0},
            {11, 1, 0, 0, 1, 0, 0}, {10000, 1, 0, 0, 1, 0, 0}, {10001, 1, 0, 0, 0, 0, 0}};
        for (int[] row : due) {
            x.call(0, 0, row[0], 0);
            for (int i = 0; i < rules.length; i++) {
                Check.due(rules[i] + " with a = " + row[0], x.holds(i), row[i + 1]);
            }
        }
        // one that can't be reckoned leaves nothing behind
        InvariantSearch y = new InvariantSearch();
        Check.rule(y, "1<1+1*(1<1+1*(1/0))");
        Check.rule(y, "0<1+1*1");
        for (int times = 0; times < 40; times++) {
            Check.due("it can't be reckoned", y.holds(0), 0);
        }
        Check.due("another one can", y.holds(1), 1);
    }

    private static void leaves() {
        InvariantSearch x = new InvariantSearch();
        String text = "need 1; if n { need 2; if n - 1 { pay 0; } } a = 1; if n { }";
        Check.method(x, 2, text);
        Check.method(x, 4, "need 1;".repeat(12));
        Check.method(x, 5, "a = 1; pay 0;");
        Check.due("two of each need and if", x.told(7), 10);
        Check.due("24 at most", x.told(9), 24);
        Check.due("none of others", x.told(10), 0);
        Check.rule(x, "1");
        int[][] want = {{1, 0, 0, 1, 0, 0, 0, 0, 0, 1}, {1, 0, 1, 0, 1, 0, 0, 1, 1, 0}, {1, 0, 1, 0, 1, 0, 1, 0, 1, 0}};
        for (int n = 0; n < 3; n++) {
            x.fresh();
            x.choice(0, 2, n, 0);
            Check.due("draw", x.draw(0, n, 1), NONE);
            for (int l = 0; l < 10; l++) {
                Check.due("LEAF " + l + " with n = " + n, x.met(2, l), want[n][l]);
                Check.due("LEAF " + l + " of another", x.met(4, l), 0);
            }
        }
        x.fresh();
        x.choice(0, 2, -1, 0);
        x.draw(0, 1, 1);
        Check.due("not 0: -1", x.met(2, 2), 1);
        x.choice(0, 4, 0, 0);
        x.draw(0, 1, 50);
        for (int l = 0; l < 24; l++) {
            Check.due("LEAF " + l + " of twelve needs", x.met(4, l), l % 2 == 0 ? 1 : 0);
        }
    }

    private static void meeting() {
        InvariantSearch x = with("need 1; need 0; need 1;");
        Check.method(x, 1, "pay 0; need 0;");
        Check.method(x, 2, "if n { need n - 5; }");
        Check.method(x, 3, "need 1 / n; if 1 { }");
        Check.rule(x, "1");
        x.choice(0, 0, 0, 0);
        x.draw(0, 1, 1);
        int[] failed = {1, 0, 0, 1, 0, 0};
        for (int l = 0; l < 6; l++) {
            Check.due("one that FAILS, LEAF " + l, x.met(0, l), failed[l]);
        }
        x.fresh();
        x.actor(0, 0, 2, 5);
        x.choice(0, 1, 0, 0);
        x.draw(0, 1, 1);
        int[] back = {1, 0, 0, 1};
        for (int l = 0; l < 4; l++) {
            Check.due("one that was CALLED BACK and FAILS, LEAF " + l, x.met(2, l), back[l]);
        }
        Check.due("the one that paid", x.met(1, 1), 1);
        x.fresh();
        x.choice(0, 3, 0, 0);
        x.draw(0, 1, 1);
        for (int l = 0; l < 4; l++) {
            Check.due("an E that FAILS is neither, LEAF " + l, x.met(3, l), 0);
        }
        Check.due("and nothing is KEPT", x.told(4), 0);
        x.fresh();
        x.choice(0, 2, 1, 1);
        x.draw(0, 1, 1);
        Check.due("one without the MONEY does no STATEMENT", x.met(2, 0), 0);
        x.fresh();
        Check.method(x, 5, "if n { need 1; } pay 0; if n { }");
        x.actor(0, 0, 5, 0);
        x.choice(0, 5, 1, 0);
        x.draw(0, 1, 1);
        int[] both = {1, 1, 1, 0, 1, 1};
        for (int l = 0; l < 6; l++) {
            Check.due("with n and, CALLED BACK, without, LEAF " + l, x.met(5, l), both[l]);
        }
    }
}
