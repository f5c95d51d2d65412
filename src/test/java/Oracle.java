import java.util.ArrayList;
import java.util.Arrays;
import java.util.HashSet;
import java.util.List;
import java.util.Set;

/** The document told once more, as plainly as can be and another way: trees, exceptions, lists. */
final class Oracle {
    private static final int BAD = -1;
    private static final int NONE = -2;
    private static final int FULL = -3;
    private static final long HIGHEST = 1000000000L;

    private static final class Fails extends Exception {
        private static final long serialVersionUID = 1;
    }

    private static final class Fault extends Exception {
        private static final long serialVersionUID = 1;
        final int place;

        Fault(int place) {
            this.place = place;
        }
    }

    private interface Expr {
        long in(Frame f) throws Fails;
    }

    private interface Stmt {
        void in(Frame f) throws Fails;
    }

    private static final class Method {
        List<Stmt> body;
        int statements;
        int leaves;
    }

    private static final class Frame {
        int[] s;
        int who;
        int k;
        int n;
        int v;
        int depth;
        boolean drawn;
    }

    private record Token(String text, int place) {
    }

    private String text = "";
    private final Method[] methods = new Method[6];
    private final List<Expr> rules = new ArrayList<>();
    private final int[] money = new int[4];
    private final int[][] hooks = new int[4][];
    private int[] now = new int[19];
    private int calls = 0;
    private int states = 0;
    private final List<int[]> choices = new ArrayList<>();
    private final List<List<Integer>> rows = new ArrayList<>();
    private final List<List<Integer>> kept = new ArrayList<>();
    private final Set<List<Integer>> met = new HashSet<>();
    private boolean metNew;

    // parsing
    private List<Token> tokens;
    private int at;
    private boolean ruling;
    private int ownK;
    private int statements;
    private int leaves;

    private static boolean letter(char c) {
        return "abcdefghijklmnopqrstuvwxyzABCDEFGHIJKLMNOPQRSTUVWXYZ".indexOf(c) >= 0;
    }

    private static List<Token> tokenize(String text) {
        List<Token> all = new ArrayList<>();
        int i = 0;
        while (i < text.length()) {
            int from = i;
            char c = text.charAt(i);
            if (c == ' ') {
                i++;
                continue;
            }
            if (letter(c)) {
                while (i < text.length() && letter(text.charAt(i))) {
                    i++;
                }
                while (i < text.length() && Character.isDigit(text.charAt(i))) {
                    i++;
                }
            } else if (Character.isDigit(c)) {
                while (i < text.length() && Character.isDigit(text.charAt(i))) {
                    i++;
                }
            } else {
                i++;
            }
            all.add(new Token(text.substring(from, i), from));
        }
        all.add(new Token("", text.length()));
        return all;
    }

    private String peek() {
        return tokens.get(at).text;
    }

    private Fault fault() {
        return new Fault(tokens.get(at).place);
    }

    private void expect(String one) throws Fault {
        if (!peek().equals(one)) {
            throw fault();
        }
        at++;
    }

    private List<Stmt> block(int ifs) throws Fault {
        List<Stmt> all = new ArrayList<>();
        while (!peek().isEmpty() && !peek().equals("}")) {
            all.add(statement(ifs));
        }
        return all;
    }

    private Stmt statement(int ifs) throws Fault {
        String first = peek();
        if (!first.matches("need|pay|if|[a-fpq]") || ++statements > 12 || first.equals("if") && ifs == 4) {
            throw fault();
        }
        at++;
        int k = ownK;
        if (first.equals("if")) {
            Expr e = expr(0);
            expect("{");
            int leaf = leaves;
            leaves += 2;
            List<Stmt> body = block(ifs + 1);
            expect("}");
            return f -> {
                long value = e.in(f);
                meet(f, k, value != 0 ? leaf : leaf + 1);
                if (value != 0) {
                    for (Stmt s : body) {
                        s.in(f);
                    }
                }
            };
        }
        if (first.length() == 1) {
            expect("=");
        }
        Expr e = expr(0);
        expect(";");
        if (first.equals("need")) {
            int leaf = leaves;
            leaves += 2;
            return f -> {
                long value = e.in(f);
                meet(f, k, value != 0 ? leaf : leaf + 1);
                if (value == 0) {
                    throw new Fails();
                }
            };
        }
        if (first.equals("pay")) {
            return f -> pay(f, e.in(f));
        }
        return f -> f.s[cell(first, f)] = (int) e.in(f);
    }

    private static int cell(String name, Frame f) {
        if (name.equals("p")) {
            return 6 + f.who;
        }
        return name.equals("q") ? 10 + f.who : name.charAt(0) - 'a';
    }

    private void meet(Frame f, int k, int leaf) {
        if (f.drawn && met.add(List.of(k, leaf))) {
            metNew = true;
        }
    }

    private void pay(Frame f, long amount) throws Fails {
        if (amount < 0 || amount > f.s[18]) {
            throw new Fails();
        }
        f.s[18] -= (int) amount;
        f.s[14 + f.who] += (int) amount;
        if (hooks[f.who] != null && f.depth < 3) {
            perform(f.s, new int[] {f.who, hooks[f.who][0], hooks[f.who][1], 0}, f.depth + 1, f.drawn);
        }
    }

    private boolean perform(int[] s, int[] call, int depth, boolean drawn) {
        int[] before = s.clone();
        try {
            if (s[14 + call[0]] < call[3] || methods[call[1]] == null) {
                throw new Fails();
            }
            s[14 + call[0]] -= call[3];
            s[18] += call[3];
            Frame f = new Frame();
            f.s = s;
            f.who = call[0];
            f.k = call[1];
            f.n = call[2];
            f.v = call[3];
            f.depth = depth;
            f.drawn = drawn;
            for (Stmt one : methods[call[1]].body) {
                one.in(f);
            }
            return true;
        } catch (Fails e) {
            System.arraycopy(before, 0, s, 0, 19);
            return false;
        }
    }

    private Expr expr(int open) throws Fault {
        Expr left = sum(open);
        String sign = peek();
        if (!sign.equals("<") && !sign.equals("=")) {
            return left;
        }
        at++;
        Expr right = sum(open);
        return binary(sign, left, right);
    }

    private Expr sum(int open) throws Fault {
        Expr left = product(open);
        while (peek().matches("[-+|]")) {
            String sign = tokens.get(at++).text;
            left = binary(sign, left, product(open));
        }
        return left;
    }

    private Expr product(int open) throws Fault {
        Expr left = factor(open, 0);
        while (peek().matches("[*/&]")) {
            String sign = tokens.get(at++).text;
            left = binary(sign, left, factor(open, 0));
        }
        return left;
    }

    private Expr factor(int open, int ahead) throws Fault {
        String one = peek();
        if (one.equals("!") || one.equals("-")) {
            if (ahead == 8) {
                throw fault();
            }
            at++;
            Expr e = factor(open, ahead + 1);
            return one.equals("-") ? f -> -e.in(f) : f -> e.in(f) == 0 ? 1 : 0;
        }
        if (one.equals("(")) {
            if (open == 8) {
                throw fault();
            }
            at++;
            Expr e = expr(open + 1);
            expect(")");
            return e;
        }
        Expr e = simple(one);
        at++;
        return e;
    }

    private Expr simple(String one) throws Fault {
        if (one.matches("[0-9]{1,9}")) {
            long value = Long.parseLong(one);
            return f -> value;
        }
        if (one.matches(ruling ? "[a-f]" : "[a-fpq]")) {
            return f -> f.s[cell(one, f)];
        }
        if (ruling && one.matches("m[0-3]")) {
            return f -> f.s[14 + one.charAt(1) - '0'];
        }
        if (!ruling && one.matches("[nvw]")) {
            return f -> one.equals("n") ? f.n : one.equals("v") ? f.v : f.who;
        }
        if (one.equals("h")) {
            return f -> f.s[18];
        }
        if (one.matches("[PQ]")) {
            int from = one.equals("P") ? 6 : 10;
            return f -> within(0L + f.s[from] + f.s[from + 1] + f.s[from + 2] + f.s[from + 3]);
        }
        throw fault();
    }

    private static long within(long number) throws Fails {
        if (Math.abs(number) > HIGHEST) {
            throw new Fails();
        }
        return number;
    }

    private static Expr binary(String sign, Expr left, Expr right) {
        return f -> {
            long a = left.in(f);
            long b = right.in(f);
            switch (sign) {
                case "+":
                    return within(a + b);
                case "-":
                    return within(a - b);
                case "*":
                    return within(a * b);
                case "/":
                    if (b == 0) {
                        throw new Fails();
                    }
                    return within(a / b);
                case "&":
                    return a != 0 && b != 0 ? 1 : 0;
                case "|":
                    return a != 0 || b != 0 ? 1 : 0;
                case "<":
                    return a < b ? 1 : 0;
                default:
                    return a == b ? 1 : 0;
            }
        };
    }

    private void open(boolean forRule, int k) {
        tokens = tokenize(text);
        text = "";
        at = 0;
        ruling = forRule;
        ownK = k;
        statements = 0;
        leaves = 0;
    }

    int feed(int a, int b, int c, int d) {
        StringBuilder more = new StringBuilder();
        for (int four : new int[] {a, b, c, d}) {
            for (int i = 3; i >= 0; i--) {
                more.append((char) (four >> 8 * i & 255));
            }
        }
        if (!more.toString().matches("[ -~]{16}")) {
            return BAD;
        }
        if (text.length() + 16 > 208) {
            return FULL;
        }
        text += more;
        return text.length();
    }

    int cut(int n) {
        if (n < 0 || n > text.length()) {
            return BAD;
        }
        text = text.substring(0, text.length() - n);
        return text.length();
    }

    int method(int k) {
        if (k < 0 || k > 5) {
            return BAD;
        }
        open(false, k);
        try {
            Method m = new Method();
            m.body = block(0);
            expect("");
            m.statements = statements;
            m.leaves = leaves;
            methods[k] = m;
            met.removeIf(leaf -> leaf.get(0) == k);
            return m.statements;
        } catch (Fault f) {
            return -10 - f.place;
        }
    }

    int rule() {
        open(true, -1);
        try {
            Expr e = expr(0);
            expect("");
            if (rules.size() == 8) {
                return FULL;
            }
            rules.add(e);
            return rules.size() - 1;
        } catch (Fault f) {
            return -10 - f.place;
        }
    }

    private int[] begin() {
        int[] s = new int[19];
        System.arraycopy(money, 0, s, 14, 4);
        return s;
    }

    private static boolean outside(int number, int low, int high) {
        return number < low || number > high;
    }

    private static boolean badCall(int i, int k, int n, int v) {
        return outside(i, 0, 3) || outside(k, 0, 5) || outside(n, -1000000, 1000000) || outside(v, 0, 1000000);
    }

    int actor(int i, int m, int k, int n) {
        if (outside(i, 0, 3) || outside(m, 0, 1000000) || outside(k, -1, 5)
                || k >= 0 && outside(n, -1000000, 1000000)) {
            return BAD;
        }
        money[i] = m;
        hooks[i] = k < 0 ? null : new int[] {k, n};
        start();
        return 1;
    }

    int call(int i, int k, int n, int v) {
        if (badCall(i, k, n, v)) {
            return BAD;
        }
        calls++;
        return perform(now, new int[] {i, k, n, v}, 1, false) ? 1 : 0;
    }

    int start() {
        int were = calls;
        calls = 0;
        now = begin();
        return were;
    }

    int state(int what) {
        return outside(what, 0, 18) ? BAD : now[what];
    }

    private boolean broken(int rule, int[] s) {
        Frame f = new Frame();
        f.s = s;
        try {
            return rules.get(rule).in(f) == 0;
        } catch (Fails e) {
            return true;
        }
    }

    private boolean noRule(int rule) {
        return outside(rule, 0, rules.size() - 1);
    }

    int holds(int rule) {
        return noRule(rule) ? BAD : broken(rule, now) ? 0 : 1;
    }

    int choice(int i, int k, int n, int v) {
        if (badCall(i, k, n, v)) {
            return BAD;
        }
        if (choices.size() == 30) {
            return FULL;
        }
        choices.add(new int[] {i, k, n, v});
        return choices.size() - 1;
    }

    int fresh() {
        int were = choices.size();
        choices.clear();
        rows.clear();
        kept.clear();
        met.clear();
        return were;
    }

    private int addRow(List<Integer> row) {
        rows.add(row);
        return rows.size() - 1;
    }

    private static List<Integer> asList(int[] s) {
        List<Integer> list = new ArrayList<>();
        for (int one : s) {
            list.add(one);
        }
        return list;
    }

    int every(int rule, int most) {
        if (noRule(rule) || outside(most, 1, 12)) {
            return BAD;
        }
        if (rows.size() == 20) {
            return FULL;
        }
        List<int[]> queue = new ArrayList<>();
        List<List<Integer>> ways = new ArrayList<>();
        Set<List<Integer>> seen = new HashSet<>();
        queue.add(begin());
        ways.add(List.of());
        seen.add(asList(begin()));
        states = 1;
        for (int i = 0; i < queue.size(); i++) {
            for (int c = 0; c < choices.size(); c++) {
                int[] s = queue.get(i).clone();
                perform(s, choices.get(c), 1, false);
                List<Integer> way = new ArrayList<>(ways.get(i));
                way.add(c);
                if (broken(rule, s)) {
                    return -10 - addRow(way);
                }
                if (way.size() < most && seen.add(asList(s))) {
                    states++;
                    if (states == 401) {
                        return NONE;
                    }
                    queue.add(s);
                    ways.add(way);
                }
            }
        }
        return 1;
    }

    int states() {
        return states;
    }

    private int breaksAt(List<Integer> row, int rule, boolean drawn) {
        int[] s = begin();
        for (int i = 0; i < row.size(); i++) {
            perform(s, choices.get(row.get(i)), 1, drawn);
            if (broken(rule, s)) {
                return i;
            }
        }
        return NONE;
    }

    private List<Integer> leastOf(List<Integer> row, int rule) {
        List<Integer> left = new ArrayList<>(row.subList(0, breaksAt(row, rule, false) + 1));
        boolean went = true;
        while (went) {
            went = false;
            for (int i = left.size() - 1; i >= 0; i--) {
                List<Integer> without = new ArrayList<>(left);
                without.remove(i);
                int breaks = breaksAt(without, rule, false);
                if (breaks >= 0) {
                    left = new ArrayList<>(without.subList(0, breaks + 1));
                    went = true;
                }
            }
        }
        return left;
    }

    int draw(int rule, int x, int many) {
        if (noRule(rule) || outside(many, 1, 200) || choices.isEmpty()) {
            return BAD;
        }
        if (rows.size() == 20) {
            return FULL;
        }
        for (int turn = 0; turn < many; turn++) {
            x = x * 1103515245 + 12345;
            int r = x >>> 16;
            List<Integer> row = new ArrayList<>();
            if (!kept.isEmpty() && (r & 1) == 1) {
                row.addAll(kept.get((r >> 1) % kept.size()));
            }
            x = x * 1103515245 + 12345;
            for (int more = 1 + (x >>> 16) % 6; more > 0 && row.size() < 12; more--) {
                x = x * 1103515245 + 12345;
                row.add((x >>> 16) % choices.size());
            }
            metNew = false;
            int breaks = breaksAt(row, rule, true);
            List<Integer> done = breaks < 0 ? row : new ArrayList<>(row.subList(0, breaks + 1));
            if (metNew && kept.size() < 8) {
                kept.add(done);
            }
            if (breaks >= 0) {
                return addRow(leastOf(done, rule));
            }
        }
        return NONE;
    }

    int row(long w, int n) {
        if (outside(n, 1, 12)) {
            return BAD;
        }
        List<Integer> row = new ArrayList<>();
        for (int i = 0; i < n; i++) {
            row.add((int) (w & 31));
            w >>= 5;
        }
        for (int one : row) {
            if (one >= choices.size()) {
                return BAD;
            }
        }
        return rows.size() == 20 ? FULL : addRow(row);
    }

    private boolean noRow(int row) {
        return outside(row, 0, rows.size() - 1);
    }

    int least(int row, int rule) {
        if (noRow(row) || noRule(rule)) {
            return BAD;
        }
        if (rows.size() == 20) {
            return FULL;
        }
        return breaksAt(rows.get(row), rule, false) < 0 ? NONE : addRow(leastOf(rows.get(row), rule));
    }

    private static int tell(List<List<Integer>> all, int k, int i) {
        if (outside(k, 0, all.size() - 1) || outside(i, -1, all.get(k).size() - 1)) {
            return BAD;
        }
        return i < 0 ? all.get(k).size() : all.get(k).get(i);
    }

    int at(int row, int i) {
        return tell(rows, row, i);
    }

    int breaks(int row, int rule) {
        return noRow(row) || noRule(rule) ? BAD : breaksAt(rows.get(row), rule, false);
    }

    int profit(int row, int i) {
        if (noRow(row) || outside(i, 0, 3)) {
            return -2000000000;
        }
        int[] s = begin();
        for (int c : rows.get(row)) {
            perform(s, choices.get(c), 1, false);
        }
        return s[14 + i] - money[i];
    }

    int met(int k, int l) {
        if (outside(k, 0, 5) || methods[k] == null || outside(l, 0, methods[k].leaves - 1)) {
            return BAD;
        }
        return met.contains(Arrays.asList(k, l)) ? 1 : 0;
    }

    int kept(int k, int i) {
        return tell(kept, k, i);
    }

    int told(int what) {
        if (outside(what, 0, 10)) {
            return BAD;
        }
        int[] first = {text.length(), rules.size(), choices.size(), rows.size(), kept.size()};
        if (what < 5) {
            return first[what];
        }
        return methods[what - 5] == null ? 0 : methods[what - 5].leaves;
    }
}
