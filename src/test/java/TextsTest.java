/** Promises 1 to 5: a new object, feed, cut, method, rule, and the grammar. */
public final class TextsTest {
    private static final int SPACES = 0x20202020;

    public static void main(String[] args) {
        newObject();
        feed();
        cut();
        method();
        rule();
        tokens();
        grammar();
        limits();
        ruleGrammar();
        Check.end();
    }

    private static void newObject() {
        InvariantSearch x = new InvariantSearch();
        for (int what = 0; what <= 10; what++) {
            Check.due("told(" + what + ") of a new object", x.told(what), 0);
        }
        for (int what = 0; what <= 18; what++) {
            Check.due("state(" + what + ") of a new object", x.state(what), 0);
        }
        Check.due("start() of a new object", x.start(), 0);
        Check.due("states() of a new object", x.states(), 0);
        Check.due("fresh() of a new object", x.fresh(), 0);
        Check.due("holds(0) of a new object", x.holds(0), InvariantSearch.BAD);
        Check.due("at(0, -1) of a new object", x.at(0, -1), InvariantSearch.BAD);
        Check.due("kept(0, -1) of a new object", x.kept(0, -1), InvariantSearch.BAD);
        Check.due("call of a method not told", x.call(0, 0, 0, 0), 0);
        Check.method(x, 0, "pay 0; a = a + 1;");
        x.call(3, 0, 0, 0);
        Check.due("no hook on a new object", x.state(0), 1);
        Check.due("no money on a new object", x.call(0, 0, 0, 1), 0);
    }

    private static void feed() {
        InvariantSearch x = new InvariantSearch();
        Check.due("lowest byte", x.feed(SPACES, SPACES, SPACES, SPACES), 16);
        Check.due("highest byte", x.feed(0x7e7e7e7e, SPACES, SPACES, SPACES), 32);
        int[] bad = {0x1f202020, 0x201f2020, 0x20201f20, 0x2020201f, 0x7f202020, 0x2020207f, 0xa0202020, -1, 0};
        for (int one : bad) {
            Check.due("feed a " + one, x.feed(one, SPACES, SPACES, SPACES), InvariantSearch.BAD);
            Check.due("feed b " + one, x.feed(SPACES, one, SPACES, SPACES), InvariantSearch.BAD);
            Check.due("feed c " + one, x.feed(SPACES, SPACES, one, SPACES), InvariantSearch.BAD);
            Check.due("feed d " + one, x.feed(SPACES, SPACES, SPACES, one), InvariantSearch.BAD);
        }
        Check.due("bad feeds change nothing", x.told(0), 32);
        for (int length = 48; length <= 208; length += 16) {
            Check.due("feed to " + length, x.feed(SPACES, SPACES, SPACES, SPACES), length);
        }
        Check.due("feed above 208", x.feed(SPACES, SPACES, SPACES, SPACES), InvariantSearch.FULL);
        Check.due("BAD ahead of FULL", x.feed(0, SPACES, SPACES, SPACES), InvariantSearch.BAD);
        Check.due("cut(15)", x.cut(15), 193);
        Check.due("feed to 209", x.feed(SPACES, SPACES, SPACES, SPACES), InvariantSearch.FULL);
        Check.due("cut(1)", x.cut(1), 192);
        Check.due("feed to 208", x.feed(SPACES, SPACES, SPACES, SPACES), 208);
        InvariantSearch y = new InvariantSearch();
        y.feed(0x61203d20, 0x31323334, 0x35363738, 0x3b202020);
        Check.due("the highest byte comes first", y.method(0), 1);
        y.call(0, 0, 0, 0);
        Check.due("a = 12345678", y.state(0), 12345678);
    }

    private static void cut() {
        InvariantSearch x = new InvariantSearch();
        Check.due("cut(0) of nothing", x.cut(0), 0);
        Check.due("cut(1) of nothing", x.cut(1), InvariantSearch.BAD);
        Check.feed(x, "a = 1; b = 2; $");
        Check.due("cut(-1)", x.cut(-1), InvariantSearch.BAD);
        Check.due("cut too much", x.cut(16), InvariantSearch.BAD);
        Check.due("cut(min)", x.cut(Integer.MIN_VALUE), InvariantSearch.BAD);
        Check.due("cut(max)", x.cut(Integer.MAX_VALUE), InvariantSearch.BAD);
        Check.due("nothing went", x.told(0), 15);
        Check.due("cut(1)", x.cut(1), 14);
        Check.due("the last bytes went", x.method(0), 2);
        Check.feed(x, "a = 1;");
        Check.due("all of it goes", x.cut(6), 0);
        Check.feed(x, "b = 2;");
        Check.due("new bytes follow what is left", x.method(0), 1);
        Check.feed(x, "a = 12345");
        x.cut(3);
        Check.due("what was cut is not read", x.method(0), -16);
        Check.feed(x, "12 = 1234");
        x.cut(2);
        Check.due("what was cut is not read", x.rule(), 0);
        Check.due("12 = 12", x.holds(0), 1);
        Check.due("208 figures", Check.rule(x, Check.repeat("1", 208)), -10);
    }

    private static void method() {
        InvariantSearch x = new InvariantSearch();
        Check.feed(x, "a = 1;");
        Check.due("method(-1)", x.method(-1), InvariantSearch.BAD);
        Check.due("method(6)", x.method(6), InvariantSearch.BAD);
        Check.due("BAD leaves the text", x.told(0), 6);
        Check.due("method(5)", x.method(5), 1);
        Check.due("the text is empty then", x.told(0), 0);
        Check.due("call of method 5", x.call(0, 5, 0, 0), 1);
        Check.due("a", x.state(0), 1);
        Check.due("a fault", Check.method(x, 5, "a = 2; b"), -18);
        Check.due("the text is empty behind a fault", x.told(0), 0);
        x.start();
        x.call(0, 5, 0, 0);
        Check.due("a fault leaves the method", x.state(0), 1);
        Check.due("in place of what was", Check.method(x, 5, "a = 7; b = 8;"), 2);
        x.call(0, 5, 0, 0);
        Check.due("the new method", x.state(0), 7);
        Check.due("method does not touch the state", Check.method(x, 4, ""), 0);
        Check.due("a is as it was", x.state(0), 7);
        Check.due("an empty method does nothing", x.call(0, 4, 0, 0), 1);
        Check.methodDue("", 0);
        Check.methodDue("     ", 0);
        Check.methodDue("if a { if b { c = 1; } } pay 0;", 4);
        Check.methodDue("if a { }", 1);
        Check.methodDue("need1<2;", -10);
        Check.methodDue("need 1<2;if(a){pay(1);}b=-1;", 4);
    }

    private static void rule() {
        InvariantSearch x = new InvariantSearch();
        for (int i = 0; i < 7; i++) {
            Check.due("rule " + i, Check.rule(x, "a = " + i), i);
        }
        Check.due("a fault is no rule", Check.rule(x, "a ="), -13);
        Check.due("told(1)", x.told(1), 7);
        Check.due("rule 7", Check.rule(x, "a = 7"), 7);
        Check.due("FULL", Check.rule(x, "1"), InvariantSearch.FULL);
        Check.due("FULL empties the text", x.told(0), 0);
        Check.due("a fault ahead of FULL", Check.rule(x, "1 1"), -12);
        Check.due("told(1)", x.told(1), 8);
        Check.due("holds(0)", x.holds(0), 1);
        Check.due("holds(7)", x.holds(7), 0);
    }

    private static void tokens() {
        Check.methodDue("a=123456789;", 1);
        Check.methodDue("a=1234567890;", -12);
        Check.methodDue("a=0000000001;", -12);
        Check.methodDue("a=b c;", -14);
        Check.methodDue("a=12b;", -14);
        Check.methodDue("a=bc;", -12);
        Check.methodDue("a=b1;", -12);
        Check.methodDue("a=n0;", -12);
        Check.methodDue("a=A;", -12);
        for (String letter : new String[] {"a", "z", "A", "Z", "m"}) {
            Check.methodDue("a=b" + letter + ";", -12);
            Check.methodDue("a=b" + letter + "09;", -12);
        }
        Check.methodDue("a=p1;", -12);
        Check.methodDue("a1=1;", -10);
        Check.methodDue("needa;", -10);
        Check.methodDue("Need a;", -10);
        Check.methodDue("nee a;", -10);
        Check.methodDue("if5{}", -10);
        Check.methodDue("iff a {}", -10);
        Check.methodDue("pays 1;", -10);
        for (String other : new String[] {"$", "#", "%", ",", ".", ":", ">", "?", "@", "[", "]", "^", "_", "`", "~", "\"", "'", "\\"}) {
            Check.methodDue("a = 1 " + other, -16);
            Check.methodDue(other, -10);
            Check.methodDue("a = 1; " + other + "b", -17);
        }
        Check.methodDue("  a  =  1  ;  ", 1);
        Check.methodDue("a=1;b=2;c=3;", 3);
        Check.methodDue("a = ! ! - - 1 ;", 1);
    }

    private static void grammar() {
        for (String cell : new String[] {"a", "b", "c", "d", "e", "f", "p", "q"}) {
            Check.methodDue(cell + " = 1;", 1);
            Check.methodDue("a = " + cell + ";", 1);
        }
        for (String only : new String[] {"n", "v", "w", "h", "P", "Q"}) {
            Check.methodDue(only + " = 1;", -10);
            Check.methodDue("a = " + only + ";", 1);
        }
        for (String never : new String[] {"m0", "m3", "g", "m", "need", "if", "pay", "x"}) {
            Check.methodDue("a = " + never + ";", -14);
        }
        Check.methodDue("m0 = 1;", -10);
        Check.methodDue("1 = a;", -10);
        Check.methodDue(";", -10);
        Check.methodDue("}", -10);
        Check.methodDue("a = 1; }", -17);
        Check.methodDue("a = 1", -15);
        Check.methodDue("a = 1   ", -18);
        Check.methodDue("a", -11);
        Check.methodDue("a < 1;", -12);
        Check.methodDue("a = 1;;", -16);
        Check.methodDue("need ;", -15);
        Check.methodDue("need", -14);
        Check.methodDue("pay ;", -14);
        Check.methodDue("if { }", -13);
        Check.methodDue("if a b = 1;", -15);
        Check.methodDue("if a ;", -15);
        Check.methodDue("if a { b = 1;", -23);
        Check.methodDue("if a { b = 1 }", -23);
        Check.methodDue("if a { } ;", -19);
        Check.methodDue("if a { 1 }", -17);
        Check.methodDue("if a = 1 { }", 1);
        Check.methodDue("need a < b < c;", -21);
        Check.methodDue("need a = b < c;", -21);
        Check.methodDue("need (a < b) < c;", 1);
        Check.methodDue("need a = (b = c);", 1);
        Check.methodDue("need a + ;", -19);
        Check.methodDue("need a + * b;", -19);
        Check.methodDue("need a * ;", -19);
        Check.methodDue("need a & / b;", -19);
        Check.methodDue("need a < ;", -19);
        Check.methodDue("need ! ;", -17);
        Check.methodDue("need a * - b;", 1);
        Check.methodDue("need a - - b;", 1);
        Check.methodDue("need a ! b;", -17);
        Check.methodDue("need + a;", -15);
        Check.methodDue("need (a;", -17);
        Check.methodDue("need a);", -16);
        Check.methodDue("need ();", -16);
        Check.methodDue("need (a = 1) | (b < 2) & !c;", 1);
        Check.methodDue("need a };", -17);
        Check.methodDue("need a { };", -17);
    }

    private static void limits() {
        String one = "a=1;";
        Check.methodDue(Check.repeat(one, 12), 12);
        Check.methodDue(Check.repeat(one, 13), -58);
        Check.methodDue(Check.repeat(one, 12) + "  if a{}", -60);
        Check.methodDue(Check.repeat(one, 12) + "}", -58);
        Check.methodDue(Check.repeat(one, 11) + "if a{}", 12);
        Check.methodDue(Check.repeat(one, 11) + "if a{a=1;}", -59);
        Check.methodDue("if a{" + Check.repeat(one, 11) + "}", 12);
        Check.methodDue("if a{" + Check.repeat(one, 11) + "}b=1;", -60);
        Check.methodDue(Check.repeat("if a{", 4) + "b=1;" + Check.repeat("}", 4), 5);
        Check.methodDue(Check.repeat("if a{", 5), -30);
        Check.methodDue(Check.repeat("if a{", 4) + "b=1; if c{}" + Check.repeat("}", 4), -35);
        Check.methodDue(Check.repeat("if a{", 4) + "}if b{}" + Check.repeat("}", 3), 5);
        Check.methodDue("a=" + Check.repeat("(", 8) + "1" + Check.repeat(")", 8) + ";", 1);
        Check.methodDue("a=" + Check.repeat("(", 9) + "1" + Check.repeat(")", 9) + ";", -20);
        Check.methodDue("a=" + Check.repeat("(1)+", 20) + "1;", 1);
        Check.methodDue("a=(" + Check.repeat("(1)+", 9) + Check.repeat("(", 7) + "1" + Check.repeat(")", 8) + ";", 1);
        Check.methodDue("a=" + Check.repeat("!(", 8) + "(1", -28);
        Check.methodDue("a=" + Check.repeat("-", 8) + "1;", 1);
        Check.methodDue("a=" + Check.repeat("-", 9) + "1;", -20);
        Check.methodDue("a=" + Check.repeat("!-", 4) + "1;", 1);
        Check.methodDue("a=" + Check.repeat("!-", 4) + "!1;", -20);
        Check.methodDue("a=1-" + Check.repeat("-", 8) + "1;", 1);
        Check.methodDue("a=1-" + Check.repeat("-", 9) + "1;", -22);
        Check.methodDue("a=" + Check.repeat("!", 8) + "(" + Check.repeat("!", 8) + "1);", 1);
        Check.methodDue("a=" + Check.repeat("1+", 102) + "1;", 1);
        Check.methodDue("a=" + Check.repeat("1*", 102) + "1", -217);
    }

    private static void ruleGrammar() {
        Check.ruleDue("", -10);
        Check.ruleDue("1", 0);
        for (String f : new String[] {"a", "b", "c", "d", "e", "f", "h", "P", "Q", "m0", "m1", "m2", "m3"}) {
            Check.ruleDue("1 < " + f, 0);
        }
        for (String f : new String[] {"n", "v", "w", "p", "q", "m4", "m", "m00", "mm0", "M0", "g", "need"}) {
            Check.ruleDue("1 < " + f, -14);
        }
        Check.ruleDue("1;", -11);
        Check.ruleDue("a = 1 = 1", -16);
        Check.ruleDue("a = 1 }", -16);
        Check.ruleDue("(a = 1) = 1", 0);
        Check.ruleDue("a = 1 $", -16);
        Check.ruleDue(Check.repeat("(", 9), -18);
        Check.ruleDue(Check.repeat("!", 8) + "a", 0);
        Check.ruleDue(Check.repeat("!", 9) + "a", -18);
        Check.ruleDue(Check.repeat(" ", 208), -218);
        Check.ruleDue(Check.repeat("a", 208), -10);
        // figures stand behind letters in a WORD, not letters behind figures
        Check.ruleDue("m0a", -12);
    }
}
