import java.util.Arrays;

/** What the tests share: texts fed as strings, and answers compared with what is due. */
final class Check {
    private static int wrong = 0;
    private static int checked = 0;
    private static String sentence = "";

    private Check() {
    }

    static void due(String what, long got, long want) {
        checked++;
        if (got != want) {
            wrong++;
            System.out.println(sentence + what + ": answered " + got + ", due is " + want);
        }
    }

    /** A test of one sentence of the document: that is told with what is not as due. */
    static void under(String quote, Runnable test) {
        int before = checked;
        sentence = "[" + quote + "] ";
        test.run();
        due("some answer is looked at", checked > before ? 1 : 0, 1);
        sentence = "";
    }

    static void yes(String what, boolean holds) {
        due(what, holds ? 1 : 0, 1);
    }

    /** The whole TEXT, with nothing behind its last byte. */
    static void feed(InvariantSearch x, String text) {
        char[] padded = Arrays.copyOf(text.toCharArray(), (text.length() + 15) / 16 * 16);
        Arrays.fill(padded, text.length(), padded.length, ' ');
        for (int i = 0; i < padded.length; i += 16) {
            x.feed(four(padded, i), four(padded, i + 4), four(padded, i + 8), four(padded, i + 12));
        }
        x.cut(padded.length - text.length());
    }

    static int four(char[] text, int from) {
        return text[from] << 24 | text[from + 1] << 16 | text[from + 2] << 8 | text[from + 3];
    }

    static int method(InvariantSearch x, int k, String text) {
        feed(x, text);
        return x.method(k);
    }

    static int rule(InvariantSearch x, String text) {
        feed(x, text);
        return x.rule();
    }

    /** The fault of a METHOD's text on a new object. */
    static void methodDue(String text, int want) {
        due("method \"" + text + "\"", method(new InvariantSearch(), 0, text), want);
    }

    static void ruleDue(String text, int want) {
        due("rule \"" + text + "\"", rule(new InvariantSearch(), text), want);
    }

    /** What E is, reckoned in a METHOD by ACTOR 2 with n = 7, v = 3; failed: the call has to fail. */
    static void valueDue(String e, int want) {
        InvariantSearch x = world(e);
        due("call of a = " + e, x.call(2, 0, 7, 3), 1);
        due(e, x.state(0), want);
    }

    static void failureDue(String e) {
        InvariantSearch x = world(e);
        due("call of a = " + e, x.call(2, 0, 7, 3), 0);
        due("h after a failed a = " + e, x.state(18), 0);
    }

    private static InvariantSearch world(String e) {
        InvariantSearch x = new InvariantSearch();
        due("method a = " + e, method(x, 0, "a = " + e + ";"), 1);
        x.actor(2, 10, -1, 0);
        return x;
    }

    static String repeat(String one, int times) {
        return one.repeat(times);
    }

    /** The w of row() for these CHOICES. */
    static long word(int... choices) {
        long w = 0;
        for (int i = choices.length - 1; i >= 0; i--) {
            w = w << 5 | choices[i];
        }
        return w;
    }

    static void rowDue(InvariantSearch x, int row, int... want) {
        due("length of row " + row, x.at(row, -1), want.length);
        for (int i = 0; i < want.length; i++) {
            due("at(" + row + ", " + i + ")", x.at(row, i), want[i]);
        }
    }

    static void end() {
        System.out.println(checked + " answers, " + wrong + " not as due");
        if (wrong != 0) {
            System.exit(1);
        }
    }
}
