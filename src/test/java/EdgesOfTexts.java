/** Terms, 1 TEXTS: each sentence that names an edge. */
final class EdgesOfTexts {
    private static final String LETTERS = "abcdefghijklmnopqrstuvwxyzABCDEFGHIJKLMNOPQRSTUVWXYZ";
    private static final String FIGURES = "0123456789";
    private static final String SIGNS = "+-*/<=&|!(){};";
    private static final String CELLS = "abcdefpq";

    private EdgesOfTexts() {
    }

    static void test(Sentences s) {
        s.test("THE TEXT has up to 208 bytes 32 .. 126.", EdgesOfTexts::wholeText);
        s.test("WORDS (letters a .. z, A .. Z, and figures behind them, as long as can be)", EdgesOfTexts::words);
        s.test("NUMBERS (1 to 9 figures, as long as can be)", EdgesOfTexts::numbers);
        s.test("one of + - * / < = & | ! ( ) { } ; by itself", EdgesOfTexts::signs);
        s.test("bytes 32 stand between TOKENS where one likes.", EdgesOfTexts::spaces);
        s.test("A METHOD: { STATEMENT }.", EdgesOfTexts::method);
        s.test("STATEMENT: need E ; or CELL = E ; or pay E ; or if E { { STATEMENT } }.", EdgesOfTexts::statement);
        s.test("(The first and the last sign around STATEMENT tell any number of it, the two within are TOKENS.)",
                EdgesOfTexts::anyNumberOfStatements);
        s.test("E: S, S < S, or S = S.", EdgesOfTexts::comparison);
        s.test("S: P, and any number of + P, - P, | P behind it.", () -> chain("+-|"));
        s.test("P: F, and any number of * F, / F, & F.", () -> chain("*/&"));
        s.test("F: NUMBER, CELL, one of n v w h P Q, ! F, - F, ( E ).", EdgesOfTexts::factor);
        s.test("CELL: one of a b c d e f p q.", EdgesOfTexts::cell);
        s.test("A RULE: E, without n v w p q, but with m0 m1 m2 m3 as F, too.", EdgesOfTexts::rule);
        s.test("FAULTS are -10 less the place, the first byte of the first TOKEN that can't stand there"
                + " (the end: how many bytes THE TEXT has)", EdgesOfTexts::place);
        s.test("what is no TOKEN (another byte; a NUMBER of more than 9 figures), what can't come", EdgesOfTexts::noToken);
        s.test("in a METHOD the first TOKEN of the 13th STATEMENT", EdgesOfTexts::thirteenth);
        s.test("an if within 4", EdgesOfTexts::ifWithinFour);
        s.test("the 9th ( open at once", EdgesOfTexts::ninthOpen);
        s.test("and a ! or a - ahead of F with 8 of these right ahead of it.", EdgesOfTexts::ninthAhead);
    }

    private static void wholeText() {
        InvariantSearch x = new InvariantSearch();
        String whole = "a=" + "1+".repeat(102) + "1;";
        Check.due("it has 208 bytes", whole.length(), 208);
        Check.feed(x, whole);
        Check.due("all of them are there", x.told(0), 208);
        Check.due("not one more", x.feed(0x20202020, 0x20202020, 0x20202020, 0x20202020), InvariantSearch.FULL);
        Check.due("all of them are read", x.method(0), 1);
        x.call(0, 0, 0, 0);
        Check.due("103 ones", x.state(0), 103);
        Check.methodDue(whole.substring(0, 207), -217);
        for (char one = 32; one <= 126; one++) {
            InvariantSearch y = new InvariantSearch();
            Check.due("byte " + (int) one, y.feed(one << 24 | 0x202020, 0x20202020, 0x20202020, 0x20202020), 16);
        }
    }

    private static void words() {
        for (char letter : LETTERS.toCharArray()) {
            Check.methodDue("a=b" + letter + ";", -12);
            Check.methodDue("a=b" + letter + "b;", -12);
            Check.methodDue("a=" + letter + "b;", -12);
        }
        for (char figure : FIGURES.toCharArray()) {
            Check.methodDue("a=b" + figure + ";", -12);
            Check.methodDue("a=b1" + figure + ";", -12);
            Check.ruleDue("1<m" + figure, figure <= '3' ? 0 : -12);
        }
        // what stands next to letters and figures among the bytes ends a WORD
        for (char other : "@[`:".toCharArray()) {
            Check.methodDue("a=b" + other + ";", -13);
        }
        Check.methodDue("if b{}", 1);
        Check.methodDue("a=b/c;", 1);
        Check.ruleDue("1<m00", -12);
        Check.ruleDue("1<m0 0", -15);
        Check.ruleDue("1<m 0", -12);
        Check.ruleDue("1<m0m0", -14);
        for (char letter : LETTERS.toCharArray()) {
            Check.ruleDue("1<m" + letter + " 1", -12);
            Check.ruleDue("1 m" + letter + " 1", -12);
        }
        spelled("need", " 1;");
        spelled("pay", " 1;");
        spelled("if", " 1{}");
        Check.methodDue("needn;", -10);
        Check.methodDue("x".repeat(208), -10);
        Check.methodDue("b=1;" + "x".repeat(102) + "0".repeat(102), -14);
    }

    /** A WORD with one letter less, more or another one is another WORD. */
    private static void spelled(String word, String rest) {
        Check.methodDue(word + rest, 1);
        for (int i = 0; i < word.length(); i++) {
            String head = word.substring(0, i);
            String tail = word.substring(i + 1);
            if (word.length() > 2) {
                // of two letters one would be left, which may be a CELL
                Check.methodDue(head + tail + rest, -10);
            }
            Check.methodDue(head + "z" + tail + rest, -10);
            Check.methodDue(head + Character.toUpperCase(word.charAt(i)) + tail + rest, -10);
            Check.methodDue(head + "z" + word.substring(i) + rest, -10);
        }
        Check.methodDue(word + "z" + rest, -10);
        Check.methodDue(word + "0" + rest, -10);
    }

    private static void numbers() {
        for (char figure : FIGURES.toCharArray()) {
            Check.valueDue("" + figure, figure - '0');
            Check.valueDue("1" + figure, 10 + figure - '0');
        }
        Check.valueDue("999999999", 999999999);
        Check.valueDue("000000009", 9);
        Check.methodDue("a=0000000009;", -12);
        Check.methodDue("a=9999999999;", -12);
        Check.methodDue("a=123456789 0;", -22);
        Check.methodDue("a=1 2;", -14);
        Check.methodDue("a=1b;", -13);
        Check.ruleDue("999999999", 0);
        Check.ruleDue("1000000000", -10);
        // figures of which an int would hold 1
        Check.ruleDue("4294967297", -10);
        Check.ruleDue("18446744073709551617", -10);
    }

    private static void signs() {
        Check.methodDue("need 1+1-1*1/1<1&1|!(1);if 1=1{}", 2);
        Check.methodDue("a=--1;", 1);
        Check.methodDue("a=!!1;", 1);
        Check.methodDue("a=1--1;", 1);
        Check.methodDue("a=((1));", 1);
        Check.methodDue("if 1{if 1{}}", 2);
        Check.ruleDue("1<=1", -12);
        Check.ruleDue("1==1", -12);
        Check.ruleDue("1&&1", -12);
        Check.ruleDue("1||1", -12);
        Check.ruleDue("1!=1", -11);
        Check.ruleDue("1//1", -12);
        for (char sign : SIGNS.toCharArray()) {
            // each of them ends a WORD and a NUMBER ahead of it
            Check.yes("a sign ends a WORD: " + sign, methodOf("a=b" + sign + "$") <= -13);
            Check.yes("a sign ends a NUMBER: " + sign, methodOf("a=1" + sign + "$") <= -13);
        }
    }

    private static int methodOf(String text) {
        return Check.method(new InvariantSearch(), 0, text);
    }

    private static void spaces() {
        String[] tokens = {"need", " ", "1", "<", "2", ";", "if", " ", "n", "{", "a", "=", "(", "-", "b", ")", ";", "}"};
        for (String between : new String[] {"", " ", "   "}) {
            Check.methodDue(String.join(between, tokens), 3);
            Check.methodDue(between + String.join(between, tokens) + between, 3);
        }
        Check.methodDue(" ".repeat(203) + "a=1; ", 1);
        Check.methodDue("a=1;" + " ".repeat(204), 1);
        Check.methodDue("need1;", -10);
        Check.methodDue("ne ed 1;", -10);
        Check.methodDue("a=1 1;", -14);
        Check.methodDue("a = 1 $ ;", -16);
    }

    private static void method() {
        Check.methodDue("", 0);
        Check.methodDue(" ", 0);
        Check.methodDue("a=1;", 1);
        Check.methodDue("{}", -10);
        Check.methodDue("{a=1;}", -10);
        Check.methodDue("}", -10);
        Check.methodDue("a=1;}", -14);
        Check.methodDue("1", -10);
    }

    private static void statement() {
        statementDue("need ", "1", ";");
        statementDue("pay ", "1", ";");
        statementDue("a=", "1", ";");
        statementDue("if ", "1", "{}");
        Check.methodDue("a", -11);
        Check.methodDue("a;", -11);
        Check.methodDue("a<1;", -11);
        Check.methodDue("a 1;", -12);
        Check.methodDue("m0 1;", -10);
        Check.methodDue("if 1 a=1;}", -15);
        Check.methodDue("if 1}", -14);
        Check.methodDue("if 1{", -15);
        Check.methodDue("if 1{a=1;", -19);
        Check.methodDue("if 1{a=1}", -18);
        Check.methodDue("if 1;", -14);
        Check.methodDue("if 1{};", -16);
        Check.methodDue("need 1{}", -16);
        Check.methodDue("a=1;;", -14);
        Check.methodDue("if=1;", -12);
        Check.methodDue("need=1;", -14);
    }

    private static void statementDue(String first, String e, String last) {
        Check.methodDue(first + e + last, 1);
        Check.methodDue(first + last, -10 - first.length());
        Check.methodDue(first + e, -10 - first.length() - e.length());
        Check.methodDue(first, -10 - first.length());
        Check.methodDue(first + e + " " + e + last, -11 - first.length() - e.length());
    }

    private static void anyNumberOfStatements() {
        for (int many = 0; many <= 12; many++) {
            Check.methodDue("a=1;".repeat(many), many);
        }
        for (int many = 0; many <= 11; many++) {
            Check.methodDue("if 1{" + "a=1;".repeat(many) + "}", many + 1);
        }
        Check.methodDue("if 1{{a=1;}}", -15);
        Check.methodDue("if 1{{}}", -15);
    }

    private static void comparison() {
        Check.ruleDue("1", 0);
        Check.ruleDue("1<1", 0);
        Check.ruleDue("1=1", 0);
        for (String first : new String[] {"<", "="}) {
            for (String second : new String[] {"<", "="}) {
                Check.ruleDue("1" + first + "1" + second + "1", -13);
                Check.ruleDue("(1" + first + "1)" + second + "1", 0);
                Check.ruleDue("1" + first + "(1" + second + "1)", 0);
            }
            Check.ruleDue("1" + first, -12);
            Check.ruleDue(first + "1", -10);
        }
    }

    /** Signs that may stand between any number of operands. */
    private static void chain(String signs) {
        for (char sign : signs.toCharArray()) {
            Check.ruleDue("1" + sign + "1", 0);
            Check.ruleDue("1" + sign, -12);
            Check.ruleDue("1" + sign + "+1", -12);
            Check.ruleDue("1" + sign + "*1", -12);
            Check.ruleDue("1" + (sign + "1").repeat(103), 0);
            Check.ruleDue("1" + (sign + "1").repeat(103) + sign, -218);
        }
        Check.ruleDue("1", 0);
        Check.ruleDue("", -10);
        boolean sums = signs.contains("+");
        Check.valueDue(sums ? "9-3-2" : "100/5/2", sums ? 4 : 10);
        Check.valueDue(sums ? "9-3+2" : "7/2*2", sums ? 8 : 6);
        Check.valueDue(sums ? "5|0+3" : "5&1*3", sums ? 4 : 3);
        Check.valueDue(sums ? "5+3|0" : "5*3&7", 1);
        Check.valueDue(sums ? "2+3*4" : "2*3+4", sums ? 14 : 10);
    }

    private static void factor() {
        for (String f : new String[] {"0", "a", "b", "c", "d", "e", "f", "p", "q", "n", "v", "w", "h", "P", "Q", "!1", "-1",
            "(1)", "(1<1)", "!!1", "--1", "!-(1)"}) {
            Check.methodDue("b=" + f + ";", 1);
            Check.methodDue("b=1*" + f + ";", 1);
        }
        for (char letter : LETTERS.toCharArray()) {
            Check.methodDue("b=" + letter + ";", ("abcdefpqnvwhPQ".indexOf(letter) >= 0) ? 1 : -12);
        }
        for (String none : new String[] {";", "()", "!;", "-;", "+1;", "*1;", "m0;", "need;", "if;", "pay;", "{", "}", ")"}) {
            boolean isInside = none.startsWith("(") || none.startsWith("!") || none.startsWith("-");
            Check.methodDue("b=" + none, isInside ? -13 : -12);
        }
        Check.methodDue("b=(1;", -14);
        Check.methodDue("b=(1", -14);
        Check.methodDue("b=1);", -13);
    }

    private static void cell() {
        for (char letter : LETTERS.toCharArray()) {
            Check.methodDue(letter + "=1;", CELLS.indexOf(letter) >= 0 ? 1 : -10);
        }
        Check.methodDue("a0=1;", -10);
        Check.methodDue("aa=1;", -10);
        Check.methodDue("(a)=1;", -10);
    }

    private static void rule() {
        for (char letter : LETTERS.toCharArray()) {
            Check.ruleDue("1<" + letter, "abcdefhPQ".indexOf(letter) >= 0 ? 0 : -12);
        }
        for (int i = 0; i <= 9; i++) {
            Check.ruleDue("m" + i, i <= 3 ? 0 : -10);
            Check.methodDue("a=m" + i + ";", -12);
        }
        for (String word : new String[] {"need", "pay", "if"}) {
            Check.ruleDue(word, -10);
            Check.ruleDue("1<" + word, -12);
        }
        Check.ruleDue("m0+m1+m2+m3", 0);
        Check.ruleDue("!-(m3)", 0);
        Check.ruleDue("1;", -11);
        Check.ruleDue("need 1;", -10);
        Check.ruleDue("", -10);
        InvariantSearch x = new InvariantSearch();
        for (int i = 0; i < 4; i++) {
            x.actor(i, 100 + i, -1, 0);
            Check.rule(x, "m" + i + "=" + (100 + i));
            Check.due("m" + i, x.holds(i), 1);
        }
    }

    private static void place() {
        Check.ruleDue("", -10);
        Check.ruleDue("$", -10);
        Check.ruleDue(" $", -11);
        Check.ruleDue(")", -10);
        Check.ruleDue("1<", -12);
        Check.ruleDue("1<   ", -15);
        Check.ruleDue(" ".repeat(208), -218);
        Check.ruleDue(" ".repeat(207) + "$", -217);
        Check.ruleDue("1" + " ".repeat(206) + "1", -217);
        Check.ruleDue("1+".repeat(104), -218);
        // a TOKEN of many bytes is told by its first one, and of several the first one is told
        Check.ruleDue("1 need", -12);
        Check.ruleDue("1 + 1234567890 $", -14);
        Check.ruleDue("1 1 $", -12);
        Check.ruleDue("1 $ 1 1", -12);
        Check.methodDue("a=1;b=$;c=1 1;", -16);
        Check.methodDue("a=1 1;b=$;", -14);
    }

    private static void noToken() {
        for (char other = 33; other <= 126; other++) {
            if ((LETTERS + FIGURES + SIGNS).indexOf(other) < 0) {
                Check.ruleDue("" + other, -10);
                Check.ruleDue("1" + other, -11);
                Check.methodDue("a=1;" + other, -14);
                Check.methodDue("a=1" + other + ";", -13);
            }
        }
        Check.ruleDue("123456789", 0);
        Check.ruleDue("1<1234567890", -12);
        Check.ruleDue("1<0000000000", -12);
        Check.ruleDue("1<" + "1".repeat(206), -12);
        Check.ruleDue("1 1234567890", -12);
        Check.ruleDue("1 1", -12);
        Check.ruleDue("a b", -12);
        Check.ruleDue("1(", -11);
    }

    private static void thirteenth() {
        String twelve = "a=1;".repeat(12);
        Check.methodDue(twelve, 12);
        for (String one : new String[] {"a=1;", "need 1;", "pay 1;", "if 1{}", "b", "$"}) {
            Check.methodDue(twelve + one, -58);
            Check.methodDue(twelve + "  " + one, -60);
        }
        Check.methodDue(twelve + " ", 12);
        Check.methodDue("if 1{" + "a=1;".repeat(11) + "}", 12);
        Check.methodDue("if 1{" + "a=1;".repeat(12) + "}", -59);
        Check.methodDue("if 1{" + "a=1;".repeat(11) + "}a=1;", -60);
        Check.methodDue("a=1;".repeat(11) + "if 1{}", 12);
        Check.methodDue("a=1;".repeat(11) + "if 1{a=1;}", -59);
        Check.methodDue("if 1{}".repeat(12), 12);
        Check.methodDue("if 1{}".repeat(13), -82);
        Check.methodDue("need 1;".repeat(12), 12);
        Check.methodDue("need 1;".repeat(13), -94);
        // the count begins anew with each text
        InvariantSearch x = new InvariantSearch();
        Check.due("twelve", Check.method(x, 0, twelve), 12);
        Check.due("twelve of another", Check.method(x, 1, twelve), 12);
        Check.due("twelve once more", Check.method(x, 0, twelve), 12);
    }

    private static void ifWithinFour() {
        Check.methodDue("if 1{".repeat(4) + "}".repeat(4), 4);
        Check.methodDue("if 1{".repeat(4) + "a=1;" + "}".repeat(4), 5);
        Check.methodDue("if 1{".repeat(5) + "}".repeat(5), -30);
        Check.methodDue("if 1{".repeat(4) + "a=1;  if 1{}" + "}".repeat(4), -36);
        Check.methodDue("if 1{".repeat(4) + "}if 1{}" + "}".repeat(3), 5);
        Check.methodDue("if 1{".repeat(4) + "}".repeat(4) + "if 1{".repeat(4) + "}".repeat(4), 8);
        Check.methodDue("if 1{}".repeat(6), 6);
        InvariantSearch x = new InvariantSearch();
        Check.method(x, 0, "if n{if n-1{if n-2{if n-3{a=n;}}}}");
        x.call(0, 0, 3, 0);
        Check.due("within three", x.state(0), 0);
        x.call(0, 0, 4, 0);
        Check.due("within four", x.state(0), 4);
    }

    private static void ninthOpen() {
        Check.ruleDue("(".repeat(8) + "1" + ")".repeat(8), 0);
        Check.ruleDue("(".repeat(9) + "1" + ")".repeat(9), -18);
        Check.ruleDue("(1)+".repeat(9) + "1", 0);
        Check.ruleDue("(((((((1)))))))+" + "(".repeat(8) + "1" + ")".repeat(8), 0);
        Check.ruleDue("((1)+" + "(".repeat(8) + "1", -22);
        Check.ruleDue("((1)+" + "(".repeat(7) + "1" + ")".repeat(8), 0);
        Check.ruleDue("1<" + "(".repeat(9), -20);
        Check.ruleDue("1*" + "!(".repeat(8) + "1" + ")".repeat(8), 0);
        Check.ruleDue("!(".repeat(9) + "1", -27);
        Check.methodDue("a=" + "(".repeat(8) + "1" + ")".repeat(8) + ";", 1);
        Check.methodDue("a=" + "(".repeat(9) + "1" + ")".repeat(9) + ";", -20);
        Check.methodDue("if " + "(".repeat(9), -21);
        Check.valueDue("1-(1-(1-(1-(1-(1-(1-(1-(5))))))))", 5);
        // as many numbers as can wait at once
        Check.valueDue("0<1+2*(".repeat(8) + "0<1+2*3" + ")".repeat(8), 1);
    }

    private static void ninthAhead() {
        for (String two : new String[] {"!!", "--", "!-", "-!"}) {
            String eight = two.repeat(4);
            Check.ruleDue(eight + "1", 0);
            Check.ruleDue(eight + "!1", -18);
            Check.ruleDue(eight + "-1", -18);
            Check.ruleDue(" " + eight + " -1", -20);
            Check.ruleDue("1*" + eight + "1", 0);
            Check.ruleDue("1*" + eight + "!1", -20);
            Check.ruleDue(eight + "(" + eight + "1)", 0);
            Check.ruleDue(eight + "(" + eight + "-1)", -27);
            Check.ruleDue(eight + "1+" + eight + "1", 0);
            Check.ruleDue("1-" + eight + "1", 0);
            Check.ruleDue("1-" + eight + "-1", -20);
            Check.methodDue("a=" + eight + "b;", 1);
            Check.methodDue("a=" + eight + "!b;", -20);
        }
        Check.valueDue("--------5", 5);
        Check.valueDue("-------5", -5);
        Check.valueDue("!!!!!!!!5", 1);
        Check.valueDue("!-!-!-!-5", 1);
        Check.valueDue("-!-!-!-!5", -1);
    }
}
