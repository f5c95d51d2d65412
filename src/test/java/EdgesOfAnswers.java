import java.util.ArrayList;
import java.util.List;
import java.util.function.ToIntFunction;

/** Terms, behind 3 ROWS: what BAD, FULL and NONE are, and what a refused call changes. */
final class EdgesOfAnswers {
    private static final int BAD = InvariantSearch.BAD;
    private static final int NONE = InvariantSearch.NONE;
    private static final int FULL = InvariantSearch.FULL;
    private static final int MILLION = 1000000;
    private static final int SPACES = 0x20202020;
    private static final int[] FAR = {Integer.MIN_VALUE, Integer.MIN_VALUE + 1, -MILLION - 1, -2, 1000001, 1 << 30,
        Integer.MAX_VALUE - 1, Integer.MAX_VALUE};

    private EdgesOfAnswers() {
    }

    static void test(Sentences s) {
        s.test("BAD: a number is none that there is, or outside what is told;", EdgesOfAnswers::bad);
        s.test("FULL: no room (also if nothing new would come);", EdgesOfAnswers::full);
        s.test("NONE: as told.", EdgesOfAnswers::none);
        s.test("Of several the first one in the order BAD, a FAULT, FULL, NONE.", EdgesOfAnswers::order);
        s.test("What is refused, or has a FAULT, changes nothing but THE TEXT (a call that reads it leaves it empty,"
                + " but with BAD).", EdgesOfAnswers::refused);
    }

    /** Something of everything there is. */
    private static InvariantSearch world() {
        InvariantSearch x = new InvariantSearch();
        Check.method(x, 0, "need n; a = a + n; p = p + v; pay 0;");
        Check.method(x, 1, "if a < 3 { b = b + 1; } q = w;");
        Check.rule(x, "a < 3");
        Check.rule(x, "1");
        x.actor(0, 50, 1, 4);
        x.actor(1, 9, -1, 0);
        x.choice(0, 0, 1, 5);
        x.choice(1, 0, 0, 0);
        x.choice(1, 1, 2, 3);
        x.row(Check.word(0, 2, 0, 0), 4);
        x.every(0, 5);
        x.draw(1, 77, 3);
        x.call(0, 0, 1, 5);
        x.call(1, 0, 0, 0);
        Check.feed(x, "a = 1;");
        return x;
    }

    /** The same with no room for ROWS, CHOICES and RULES. */
    private static InvariantSearch fullWorld() {
        InvariantSearch x = world();
        x.cut(6);
        for (int rule = 2; rule < 8; rule++) {
            Check.rule(x, "1");
        }
        for (int choice = 3; choice < 30; choice++) {
            x.choice(0, 0, 1, 0);
        }
        for (int row = 2; row < 20; row++) {
            x.row(0, 1);
        }
        Check.feed(x, "1" + " ".repeat(207));
        return x;
    }

    private static void bad() {
        List<ToIntFunction<InvariantSearch>> calls = new ArrayList<>();
        for (int far : FAR) {
            calls.add(x -> x.cut(far));
            calls.add(x -> x.method(far));
            calls.add(x -> x.actor(far, 0, -1, 0));
            calls.add(x -> x.actor(0, far, -1, 0));
            calls.add(x -> x.actor(0, 0, far, 0));
            calls.add(x -> x.actor(0, 0, 0, far == -2 ? -MILLION - 1 : far));
            calls.add(x -> x.call(far, 0, 0, 0));
            calls.add(x -> x.call(0, far, 0, 0));
            calls.add(x -> x.call(0, 0, far == -2 ? -MILLION - 1 : far, 0));
            calls.add(x -> x.call(0, 0, 0, far));
            calls.add(x -> x.choice(far, 0, 0, 0));
            calls.add(x -> x.choice(0, far, 0, 0));
            calls.add(x -> x.choice(0, 0, far == -2 ? -MILLION - 1 : far, 0));
            calls.add(x -> x.choice(0, 0, 0, far));
            calls.add(x -> x.state(far));
            calls.add(x -> x.holds(far));
            calls.add(x -> x.every(far, 1));
            calls.add(x -> x.every(0, far));
            calls.add(x -> x.draw(far, 0, 1));
            calls.add(x -> x.draw(0, 0, far));
            calls.add(x -> x.row(0, far));
            calls.add(x -> x.least(far, 0));
            calls.add(x -> x.least(0, far));
            calls.add(x -> x.at(far, -1));
            calls.add(x -> x.at(0, far));
            calls.add(x -> x.breaks(far, 0));
            calls.add(x -> x.breaks(0, far));
            calls.add(x -> x.profit(far, 0) == -2000000000 ? BAD : 0);
            calls.add(x -> x.profit(0, far) == -2000000000 ? BAD : 0);
            calls.add(x -> x.met(far, 0));
            calls.add(x -> x.met(0, far));
            calls.add(x -> x.kept(far, -1));
            calls.add(x -> x.kept(0, far));
            calls.add(x -> x.told(far));
        }
        InvariantSearch x = world();
        for (int i = 0; i < calls.size(); i++) {
            Check.due("call " + i % 34 + " with " + FAR[i / 34], calls.get(i).applyAsInt(x), BAD);
        }
    }

    private static void full() {
        InvariantSearch x = fullWorld();
        Check.due("feed of nothing but spaces", x.feed(SPACES, SPACES, SPACES, SPACES), FULL);
        Check.due("a RULE that is there already", x.rule(), FULL);
        Check.due("a CHOICE that is there already", x.choice(0, 0, 1, 0), FULL);
        Check.due("a ROW that is there already", x.row(0, 1), FULL);
        Check.due("every that would find none", x.every(1, 1), FULL);
        Check.due("every that would not know", x.every(1, 12), FULL);
        Check.due("draw that would draw none", x.draw(1, 1, 1), FULL);
        Check.due("least of one that BREAKS it", x.least(0, 0), FULL);
        Check.due("least of one that does not", x.least(0, 1), FULL);
        Check.due("told(1)", x.told(1), 8);
        Check.due("told(2)", x.told(2), 30);
        Check.due("told(3)", x.told(3), 20);
        Check.due("METHODS have room: they come in place of what was", x.method(0), 0);
        InvariantSearch y = world();
        y.cut(6);
        for (int row = 2; row < 19; row++) {
            y.row(0, 1);
        }
        Check.due("one has room: every that finds none does not need it", y.every(1, 1), 1);
        Check.due("nor does draw", y.draw(1, 1, 1), NONE);
        Check.due("nor least", y.least(0, 1), NONE);
        Check.due("the last one", y.least(0, 0), 19);
        Check.due("the next one", y.least(0, 0), FULL);
    }

    private static void none() {
        InvariantSearch x = world();
        Check.due("draw", x.draw(1, 5, 200), NONE);
        Check.due("least", x.least(0, 1), NONE);
        Check.due("breaks", x.breaks(0, 1), NONE);
        InvariantSearch y = new InvariantSearch();
        Check.method(y, 0, "a = a * 20 + n;");
        Check.rule(y, "1");
        for (int n = 1; n <= 30; n++) {
            y.choice(0, 0, n, 0);
        }
        Check.due("every", y.every(0, 12), NONE);
        Check.due("no ROW comes of it", y.told(3) + x.told(3), 2);
    }

    private static void order() {
        InvariantSearch x = fullWorld();
        Check.due("feed: BAD, FULL", x.feed(SPACES, SPACES, SPACES, 0x2020201f), BAD);
        Check.due("choice: BAD, FULL", x.choice(0, 6, 0, 0), BAD);
        Check.due("row: BAD, FULL", x.row(31, 1), BAD);
        Check.due("row: BAD, FULL", x.row(0, 13), BAD);
        Check.due("every: BAD, FULL", x.every(8, 1), BAD);
        Check.due("every: BAD, FULL", x.every(1, 13), BAD);
        Check.due("draw: BAD, FULL", x.draw(8, 1, 1), BAD);
        Check.due("draw: BAD, FULL", x.draw(1, 1, 201), BAD);
        Check.due("least: BAD, FULL", x.least(20, 1), BAD);
        Check.due("least: BAD, FULL", x.least(0, 8), BAD);
        Check.due("least: FULL, NONE", x.least(0, 1), FULL);
        Check.due("draw: FULL, NONE", x.draw(1, 1, 1), FULL);
        Check.due("every: FULL, NONE", x.every(1, 12), FULL);
        x.cut(208);
        Check.due("rule: a FAULT, FULL", Check.rule(x, "1 1"), -12);
        Check.due("rule: a FAULT at the end, FULL", x.rule(), -10);
        Check.due("rule: FULL", Check.rule(x, "1"), FULL);
        Check.feed(x, "$");
        Check.due("method: BAD, a FAULT", x.method(6), BAD);
        Check.due("method: BAD, a FAULT", x.method(-1), BAD);
        Check.due("method: a FAULT", x.method(5), -10);
    }

    private static void refused() {
        List<ToIntFunction<InvariantSearch>> bad = new ArrayList<>();
        bad.add(x -> x.feed(0x62203d20, 0x393b2020, SPACES, 0x2020207f));
        bad.add(x -> x.cut(-1));
        bad.add(x -> x.cut(7));
        bad.add(x -> x.method(-1));
        bad.add(x -> x.method(6));
        bad.add(x -> x.actor(4, 1, -1, 0));
        bad.add(x -> x.actor(0, -1, -1, 0));
        bad.add(x -> x.actor(0, MILLION + 1, -1, 0));
        bad.add(x -> x.actor(0, 1, -2, 0));
        bad.add(x -> x.actor(0, 1, 6, 0));
        bad.add(x -> x.actor(0, 1, 0, MILLION + 1));
        bad.add(x -> x.actor(0, 1, 0, -MILLION - 1));
        bad.add(x -> x.call(4, 0, 1, 0));
        bad.add(x -> x.call(0, 6, 1, 0));
        bad.add(x -> x.call(0, 0, MILLION + 1, 0));
        bad.add(x -> x.call(0, 0, 1, -1));
        bad.add(x -> x.choice(0, 6, 0, 0));
        bad.add(x -> x.every(2, 3));
        bad.add(x -> x.every(0, 0));
        bad.add(x -> x.every(0, 13));
        bad.add(x -> x.draw(2, 1, 20));
        bad.add(x -> x.draw(1, 1, 0));
        bad.add(x -> x.draw(1, 1, 201));
        bad.add(x -> x.row(Check.word(0, 3), 2));
        bad.add(x -> x.row(0, 13));
        bad.add(x -> x.least(9, 0));
        bad.add(x -> x.least(0, 2));
        bad.add(x -> x.breaks(0, 2));
        bad.add(x -> x.profit(0, 4) == -2000000000 ? BAD : 0);
        for (int i = 0; i < bad.size(); i++) {
            InvariantSearch x = world();
            Check.due("refused call " + i, bad.get(i).applyAsInt(x), BAD);
            Check.due("THE TEXT stays with BAD, " + i, x.told(0), 6);
            same("BAD, refused call " + i, x, world());
        }
        refusedWhenFull();
        refusedText();
    }

    private static void refusedWhenFull() {
        List<ToIntFunction<InvariantSearch>> full = new ArrayList<>();
        full.add(x -> x.feed(0x62203d20, 0x393b2020, SPACES, SPACES));
        full.add(x -> x.choice(0, 0, 2, 0));
        full.add(x -> x.every(0, 2));
        full.add(x -> x.draw(0, 1, 20));
        full.add(x -> x.row(1, 1));
        full.add(x -> x.least(0, 0));
        for (int i = 0; i < full.size(); i++) {
            InvariantSearch x = fullWorld();
            Check.due("call without room " + i, full.get(i).applyAsInt(x), FULL);
            Check.due("THE TEXT stays, " + i, x.told(0), 208);
            same("FULL, call " + i, x, fullWorld());
        }
        InvariantSearch x = world();
        Check.due("NONE", x.least(0, 1), NONE);
        same("NONE", x, world());
    }

    /** A call that reads THE TEXT leaves it empty, but changes nothing else. */
    private static void refusedText() {
        for (int k = 0; k < 3; k++) {
            InvariantSearch x = world();
            x.cut(1);
            Check.due("a FAULT of METHOD " + k, x.method(k), -15);
            Check.due("THE TEXT is empty", x.told(0), 0);
            sameWithoutText("a FAULT of METHOD " + k, x, world());
        }
        InvariantSearch y = world();
        Check.due("a FAULT of a RULE", y.rule(), -15);
        Check.due("THE TEXT is empty", y.told(0), 0);
        sameWithoutText("a FAULT of a RULE", y, world());
        InvariantSearch z = fullWorld();
        Check.due("a RULE without room", z.rule(), FULL);
        Check.due("THE TEXT is empty", z.told(0), 0);
        sameWithoutText("a RULE without room", z, fullWorld());
        InvariantSearch u = world();
        Check.due("a METHOD", u.method(5), 1);
        Check.due("THE TEXT is empty", u.told(0), 0);
        Check.due("a RULE", Check.rule(u, "1"), 2);
        Check.due("THE TEXT is empty", u.told(0), 0);
    }

    private static void sameWithoutText(String what, InvariantSearch x, InvariantSearch y) {
        y.cut(y.told(0));
        same(what, x, y);
    }

    /** Two objects answer alike, whatever is asked. */
    private static void same(String what, InvariantSearch x, InvariantSearch y) {
        int[] of = answers(x);
        int[] due = answers(y);
        for (int i = 0; i < due.length; i++) {
            Check.due(what + ", answer " + i, of[i], due[i]);
        }
    }

    private static int[] answers(InvariantSearch x) {
        List<Integer> all = new ArrayList<>();
        for (int what = 0; what < 11; what++) {
            all.add(x.told(what));
        }
        for (int what = 0; what < 19; what++) {
            all.add(x.state(what));
        }
        all.add(x.states());
        for (int i = -1; i < 7; i++) {
            all.add(x.at(0, i));
            all.add(x.at(1, i));
            all.add(x.kept(0, i));
            all.add(x.kept(1, i));
        }
        for (int l = 0; l < 2; l++) {
            all.add(x.met(0, l));
            all.add(x.met(1, l));
        }
        all.add(x.holds(0));
        all.add(x.holds(1));
        all.add(x.breaks(0, 0));
        all.add(x.profit(0, 0));
        all.add(x.profit(0, 1));
        all.add(x.method(3));
        all.add(x.call(0, 3, 0, 0));
        all.add(x.state(0));
        all.add(x.start());
        all.add(x.call(0, 0, 2, 1));
        all.add(x.call(1, 1, 2, 1));
        for (int what = 0; what < 19; what++) {
            all.add(x.state(what));
        }
        all.add(x.every(1, 4));
        all.add(x.states());
        all.add(x.draw(1, 5, 30));
        all.add(x.kept(2, -1));
        all.add(x.draw(0, 6, 30));
        all.add(x.at(x.told(3) - 1, -1));
        return all.stream().mapToInt(i -> i).toArray();
    }
}
