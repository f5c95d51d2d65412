import java.util.regex.Matcher;
import java.util.regex.Pattern;

/** The sentences of the document that name an edge: each has a test of its own, and none is left out. */
final class Sentences {
    // By these the document names an edge; what is left of it without its tested sentences has none.
    private static final Pattern EDGE = Pattern.compile("[0-9]|BAD|FULL|NONE|FAULT|FAIL|\\b(most|fewer|less|below|above"
            + "|empty|any number|as long as|up to|none|refused|latest|too)\\b");

    private final String document;
    private String title = "";
    private String rest = "";

    /** An empty document is not compared with. */
    Sentences(String document) {
        this.document = document;
    }

    void section(String name) {
        end();
        title = name;
        rest = textOf(name);
    }

    void test(String quote, Runnable test) {
        if (!document.isEmpty()) {
            int at = rest.indexOf(quote);
            Check.yes(title + " says: " + quote, at >= 0);
            rest = at < 0 ? rest : rest.substring(0, at) + " .. " + rest.substring(at + quote.length());
        }
        Check.under(title + ": " + quote, test);
    }

    /** Of the section that was begun last, nothing that names an edge is without a test. */
    void end() {
        Matcher edge = EDGE.matcher(rest);
        Check.yes(title + " has an edge without a test in: " + rest, !edge.find());
        rest = "";
    }

    private String textOf(String name) {
        if (document.isEmpty()) {
            return "";
        }
        int from = document.indexOf("\n## " + name + "\n");
        Check.yes("the document has " + name, from >= 0);
        if (from < 0) {
            return "";
        }
        int begin = document.indexOf('\n', from + 1);
        int to = document.indexOf("\n## ", begin);
        String text = document.substring(begin, to < 0 ? document.length() : to);
        // Marks of a text's shape and signatures say nothing of their own.
        return text.replaceAll("```(text|java)?", " ").replaceAll("`[^`]*`:?", " ")
                .replaceAll("======== [0-9] [A-Z ]+\\.", " ").replaceAll("\\s+", " ").trim();
    }
}
