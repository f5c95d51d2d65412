import java.util.Arrays;

/** A small contract, rules about it, and the rows of calls that break a rule. */
public final class InvariantSearch {
    public static final int BAD = -1, NONE = -2, FULL = -3;

    private static final int BAD_PROFIT = -2000000000;
    private static final int TOLD_FROM = -10;
    private static final int MILLION = 1000000;

    private static final int METHODS = 6;
    private static final int RULES = 8;
    private static final int ACTORS = 4;
    private static final int CHOICES = 30;
    private static final int ROWS = 20;
    private static final int KEPT = 8;
    private static final int ROW_CALLS = 12;
    private static final int DRAWN_ROWS = 200;
    private static final int CHOICE_BITS = 5;

    // Where the parts of a STATE stand, in the order in which state() tells them.
    private static final int P_CELLS = 6;
    private static final int Q_CELLS = 10;
    private static final int MONEY = 14;
    private static final int HELD = 18;
    private static final int STATE_SIZE = 19;

    private final Text text;
    private final Parser parser;
    private final World world;
    private final Machine machine;
    private final Runner runner;
    private final Drawer drawer;
    private final Rows rows;
    private final Code[] rules;
    private final int[] draft;
    private final int[] shown;
    private int ruleCount;
    private int callsSinceStart;

    public InvariantSearch() {
        text = new Text();
        parser = new Parser(text);
        world = new World();
        machine = new Machine(world);
        runner = new Runner(machine);
        drawer = new Drawer(runner, world);
        rows = new Rows(ROWS);
        rules = new Code[RULES];
        draft = new int[ROW_CALLS];
        shown = new int[STATE_SIZE];
        ruleCount = 0;
        callsSinceStart = 0;
    }

    // ---- texts

    public int feed(int a, int b, int c, int d) {
        if (!Text.isPlain(a) || !Text.isPlain(b) || !Text.isPlain(c) || !Text.isPlain(d)) {
            return BAD;
        }
        if (!text.hasRoomFor(16)) {
            return FULL;
        }
        text.append(a);
        text.append(b);
        text.append(c);
        text.append(d);
        return text.length();
    }

    public int cut(int n) {
        if (n < 0 || n > text.length()) {
            return BAD;
        }
        text.drop(n);
        return text.length();
    }

    public int method(int k) {
        if (!isWithin(k, 0, METHODS - 1)) {
            return BAD;
        }
        Code code = parser.readMethod();
        int fault = TOLD_FROM - text.place();
        text.drop(text.length());
        if (code == null) {
            return fault;
        }
        world.setMethod(k, code);
        return code.statements;
    }

    public int rule() {
        Code code = parser.readRule();
        int fault = TOLD_FROM - text.place();
        text.drop(text.length());
        if (code == null) {
            return fault;
        }
        if (ruleCount >= RULES) {
            return FULL;
        }
        rules[ruleCount] = code;
        ruleCount++;
        return ruleCount - 1;
    }

    // ---- actors, the state

    public int actor(int i, int money, int k, int n) {
        if (!isWithin(i, 0, ACTORS - 1) || !isWithin(money, 0, MILLION)) {
            return BAD;
        }
        if (k == -1) {
            world.setActor(i, money, null);
        } else if (isCall(i, k, n, 0)) {
            world.setActor(i, money, new Call(i, k, n, 0));
        } else {
            return BAD;
        }
        showStart();
        return 1;
    }

    public int call(int i, int k, int n, int v) {
        if (!isCall(i, k, n, v)) {
            return BAD;
        }
        machine.load(shown, 0);
        boolean done = machine.attempt(new Call(i, k, n, v));
        machine.save(shown, 0);
        callsSinceStart++;
        return done ? 1 : 0;
    }

    public int start() {
        int calls = callsSinceStart;
        showStart();
        return calls;
    }

    public int state(int what) {
        return isWithin(what, 0, STATE_SIZE - 1) ? shown[what] : BAD;
    }

    public int holds(int rule) {
        if (!isRule(rule)) {
            return BAD;
        }
        machine.load(shown, 0);
        return machine.keeps(rules[rule]) ? 1 : 0;
    }

    // ---- rows

    public int choice(int i, int k, int n, int v) {
        if (!isCall(i, k, n, v)) {
            return BAD;
        }
        if (runner.choiceCount() >= CHOICES) {
            return FULL;
        }
        runner.addChoice(new Call(i, k, n, v));
        return runner.choiceCount() - 1;
    }

    public int fresh() {
        int choices = runner.choiceCount();
        runner.dropChoices();
        rows.clear();
        drawer.forget();
        return choices;
    }

    public int every(int rule, int calls) {
        if (!isRule(rule) || !isWithin(calls, 1, ROW_CALLS)) {
            return BAD;
        }
        if (rows.isFull()) {
            return FULL;
        }
        int length = runner.seek(rules[rule], calls, draft);
        if (length == NONE) {
            return NONE;
        }
        return length == 0 ? 1 : TOLD_FROM - rows.add(draft, length);
    }

    public int states() {
        return runner.statesSeen();
    }

    public int draw(int rule, int x, int rows) {
        if (!isRule(rule) || !isWithin(rows, 1, DRAWN_ROWS) || runner.choiceCount() == 0) {
            return BAD;
        }
        if (this.rows.isFull()) {
            return FULL;
        }
        int length = drawer.drawUntilBroken(rules[rule], x, rows, draft);
        if (length == NONE) {
            return NONE;
        }
        return this.rows.add(draft, runner.makeLeast(draft, length, rules[rule]));
    }

    public int row(long w, int n) {
        if (!isWithin(n, 1, ROW_CALLS)) {
            return BAD;
        }
        for (int i = 0; i < n; i++) {
            draft[i] = (int) (w >>> (CHOICE_BITS * i)) & ((1 << CHOICE_BITS) - 1);
            if (draft[i] >= runner.choiceCount()) {
                return BAD;
            }
        }
        return rows.isFull() ? FULL : rows.add(draft, n);
    }

    public int least(int row, int rule) {
        if (!rows.has(row) || !isRule(rule)) {
            return BAD;
        }
        if (rows.isFull()) {
            return FULL;
        }
        int length = rows.copy(row, draft);
        int broken = runner.breaksAt(draft, length, rules[rule]);
        if (broken == NONE) {
            return NONE;
        }
        return rows.add(draft, runner.makeLeast(draft, broken + 1, rules[rule]));
    }

    public int at(int row, int i) {
        return rows.tell(row, i);
    }

    public int breaks(int row, int rule) {
        if (!rows.has(row) || !isRule(rule)) {
            return BAD;
        }
        int length = rows.copy(row, draft);
        return runner.breaksAt(draft, length, rules[rule]);
    }

    public int profit(int row, int i) {
        if (!rows.has(row) || !isWithin(i, 0, ACTORS - 1)) {
            return BAD_PROFIT;
        }
        int length = rows.copy(row, draft);
        runner.doAll(draft, length);
        return machine.cell(MONEY + i) - world.moneyAtStart(i);
    }

    // ---- what was met

    public int met(int k, int l) {
        if (!isWithin(l, 0, world.leavesOf(k) - 1)) {
            return BAD;
        }
        return world.hasMet(k, l) ? 1 : 0;
    }

    public int kept(int k, int i) {
        return drawer.tellKept(k, i);
    }

    public int told(int what) {
        switch (what) {
            case 0:
                return text.length();
            case 1:
                return ruleCount;
            case 2:
                return runner.choiceCount();
            case 3:
                return rows.size();
            case 4:
                return drawer.keptCount();
            default:
                return isWithin(what, 5, 4 + METHODS) ? world.leavesOf(what - 5) : BAD;
        }
    }

    private void showStart() {
        machine.toStart();
        machine.save(shown, 0);
        callsSinceStart = 0;
    }

    private boolean isRule(int rule) {
        return isWithin(rule, 0, ruleCount - 1);
    }

    private static boolean isCall(int i, int k, int n, int v) {
        return isWithin(i, 0, ACTORS - 1) && isWithin(k, 0, METHODS - 1)
                && isWithin(n, -MILLION, MILLION) && isWithin(v, 0, MILLION);
    }

    private static boolean isWithin(int number, int lowest, int highest) {
        return number >= lowest && number <= highest;
    }

    /** THE TEXT, and the TOKEN of it that is being looked at. */
    private static final class Text {
        // A sign, and a WORD of one letter, is its own byte as a TOKEN; these are below all bytes.
        static final int END = 0;
        static final int NUMBER = 1;
        static final int NEED = 2;
        static final int IF = 3;
        static final int PAY = 4;
        static final int MONEY_0 = 5;
        static final int MONEY_3 = 8;
        static final int OTHER = 9;
        static final int ROOM = 208;

        private static final String SIGNS = "+-*/<=&|!(){};";
        private static final int MOST_FIGURES = 9;

        private final byte[] bytes = new byte[ROOM];
        private int length;
        private int place;
        private int end;
        private int token;
        private int number;

        static boolean isPlain(int four) {
            for (int shift = 24; shift >= 0; shift -= 8) {
                int one = (four >>> shift) & 255;
                if (one < 32 || one > 126) {
                    return false;
                }
            }
            return true;
        }

        boolean hasRoomFor(int more) {
            return length + more <= ROOM;
        }

        void append(int four) {
            for (int shift = 24; shift >= 0 && length < ROOM; shift -= 8) {
                bytes[length] = (byte) (four >>> shift);
                length++;
            }
        }

        void drop(int n) {
            length = Math.max(0, length - n);
        }

        int length() {
            return length;
        }

        int place() {
            return place;
        }

        int token() {
            return token;
        }

        int number() {
            return number;
        }

        void open() {
            end = 0;
            next();
        }

        void next() {
            int from = end;
            while (from < length && bytes[from] == ' ') {
                from++;
            }
            place = from;
            end = from;
            if (from >= length) {
                token = END;
            } else if (isLetter(bytes[from])) {
                readWord();
            } else if (isFigure(bytes[from])) {
                readNumber();
            } else {
                end = from + 1;
                token = SIGNS.indexOf((char) bytes[from]) >= 0 ? bytes[from] : OTHER;
            }
        }

        private void readWord() {
            int to = place;
            while (to < length && isLetter(bytes[to])) {
                to++;
            }
            while (to < length && isFigure(bytes[to])) {
                to++;
            }
            end = to;
            if (to - place == 1) {
                token = bytes[place];
            } else if (isSpelled("need")) {
                token = NEED;
            } else if (isSpelled("if")) {
                token = IF;
            } else if (isSpelled("pay")) {
                token = PAY;
            } else {
                token = moneyWord();
            }
        }

        private int moneyWord() {
            if (end - place != 2 || bytes[place] != 'm') {
                return OTHER;
            }
            int figure = bytes[place + 1] - '0';
            return figure >= 0 && figure < ACTORS ? MONEY_0 + figure : OTHER;
        }

        private boolean isSpelled(String word) {
            if (end - place != word.length()) {
                return false;
            }
            for (int i = 0; i < word.length(); i++) {
                if (bytes[place + i] != word.charAt(i)) {
                    return false;
                }
            }
            return true;
        }

        private void readNumber() {
            int to = place;
            int value = 0;
            while (to < length && isFigure(bytes[to])) {
                // What a longer NUMBER wraps to does not matter: it is no TOKEN.
                value = value * 10 + (bytes[to] - '0');
                to++;
            }
            end = to;
            number = value;
            token = to - place <= MOST_FIGURES ? NUMBER : OTHER;
        }

        private static boolean isLetter(int one) {
            return (one >= 'a' && one <= 'z') || (one >= 'A' && one <= 'Z');
        }

        private static boolean isFigure(int one) {
            return one >= '0' && one <= '9';
        }
    }

    /** A METHOD or a RULE as steps for the Machine's stack. */
    private static final class Code {
        static final int NUMBER = 1;
        static final int READ = 2;
        static final int READ_OWN = 3;
        static final int READ_ALL = 4;
        static final int N = 5;
        static final int V = 6;
        static final int W = 7;
        static final int NOT = 8;
        static final int NEGATE = 9;
        static final int ADD = 10;
        static final int SUBTRACT = 11;
        static final int OR = 12;
        static final int MULTIPLY = 13;
        static final int DIVIDE = 14;
        static final int AND = 15;
        static final int LESS = 16;
        static final int SAME = 17;
        static final int MEET = 18;
        static final int NEED = 19;
        static final int SKIP = 20;
        static final int WRITE = 21;
        static final int WRITE_OWN = 22;
        static final int PAY = 23;

        final int statements;
        final int leaves;
        final int size;
        private final int[] ops;
        private final int[] args;

        Code(int[] ops, int[] args, int size, int statements, int leaves) {
            this.size = Math.max(0, Math.min(size, Math.min(ops.length, args.length)));
            this.ops = Arrays.copyOf(ops, this.size);
            this.args = Arrays.copyOf(args, this.size);
            this.statements = statements;
            this.leaves = leaves;
        }

        int op(int i) {
            return i >= 0 && i < ops.length ? ops[i] : 0;
        }

        int arg(int i) {
            return i >= 0 && i < args.length ? args[i] : 0;
        }
    }

    /**
     * Reads THE TEXT as a METHOD or a RULE. A reading that answers false stands at the TOKEN that
     * can't come: so text.place() is the place of the FAULT.
     */
    private static final class Parser {
        private static final int MOST_STATEMENTS = 12;
        private static final int MOST_IFS = 4;
        private static final int MOST_OPEN = 8;
        private static final int MOST_PREFIXES = 8;

        private final Text text;
        // No TOKEN makes more than one step; need and its ; make two together.
        private final int[] ops = new int[Text.ROOM];
        private final int[] args = new int[Text.ROOM];
        private int size;
        private int statements;
        private int leaves;
        private boolean isForRule;

        Parser(Text text) {
            this.text = text;
        }

        /** null: a FAULT. */
        Code readMethod() {
            begin(false);
            return readStatements(0) && text.token() == Text.END ? finished() : null;
        }

        /** null: a FAULT. */
        Code readRule() {
            begin(true);
            return readExpression(0) && text.token() == Text.END ? finished() : null;
        }

        private void begin(boolean forRule) {
            isForRule = forRule;
            size = 0;
            statements = 0;
            leaves = 0;
            text.open();
        }

        private Code finished() {
            return new Code(ops, args, size, statements, leaves);
        }

        private boolean readStatements(int ifs) {
            for (int turn = 0; turn <= MOST_STATEMENTS; turn++) {
                if (text.token() == Text.END || text.token() == '}') {
                    return true;
                }
                if (!readStatement(ifs)) {
                    return false;
                }
            }
            return false;
        }

        private boolean readStatement(int ifs) {
            int first = text.token();
            boolean isCell = cellOf(first) >= 0;
            boolean isIf = first == Text.IF && ifs < MOST_IFS;
            if (statements >= MOST_STATEMENTS
                    || !(isCell || isIf || first == Text.NEED || first == Text.PAY)) {
                return false;
            }
            statements++;
            text.next();
            if (isIf) {
                return readIf(ifs);
            }
            if (isCell && !pass('=')) {
                return false;
            }
            if (!readExpression(0) || !pass(';')) {
                return false;
            }
            if (isCell) {
                add(isOwn(first) ? Code.WRITE_OWN : Code.WRITE, cellOf(first));
            } else if (first == Text.NEED) {
                addLeaves();
                add(Code.NEED, 0);
            } else {
                add(Code.PAY, 0);
            }
            return true;
        }

        private boolean readIf(int ifs) {
            if (!readExpression(0) || !pass('{')) {
                return false;
            }
            addLeaves();
            int skip = size;
            add(Code.SKIP, 0);
            if (!readStatements(ifs + 1) || !pass('}')) {
                return false;
            }
            if (skip < args.length) {
                args[skip] = size;
            }
            return true;
        }

        private boolean readExpression(int open) {
            if (!readSum(open)) {
                return false;
            }
            int sign = text.token();
            if (sign != '<' && sign != '=') {
                return true;
            }
            text.next();
            if (!readSum(open)) {
                return false;
            }
            add(sign == '<' ? Code.LESS : Code.SAME, 0);
            return true;
        }

        private boolean readSum(int open) {
            if (!readProduct(open)) {
                return false;
            }
            for (int more = 0; more < Text.ROOM; more++) {
                int op = sumOp(text.token());
                if (op == 0) {
                    return true;
                }
                text.next();
                if (!readProduct(open)) {
                    return false;
                }
                add(op, 0);
            }
            return true;
        }

        private boolean readProduct(int open) {
            if (!readFactor(open)) {
                return false;
            }
            for (int more = 0; more < Text.ROOM; more++) {
                int op = productOp(text.token());
                if (op == 0) {
                    return true;
                }
                text.next();
                if (!readFactor(open)) {
                    return false;
                }
                add(op, 0);
            }
            return true;
        }

        private boolean readFactor(int open) {
            int prefixes = 0;
            int minuses = 0;
            // One more than these is left to stand as an operand, which it can't.
            while (prefixes < MOST_PREFIXES && (text.token() == '!' || text.token() == '-')) {
                minuses = minuses * 2 + (text.token() == '-' ? 1 : 0);
                prefixes++;
                text.next();
            }
            if (text.token() == '(' ? !readParenthesis(open) : !readOperand()) {
                return false;
            }
            for (int i = 0; i < prefixes; i++) {
                add(((minuses >> i) & 1) == 1 ? Code.NEGATE : Code.NOT, 0);
            }
            return true;
        }

        private boolean readParenthesis(int open) {
            if (open >= MOST_OPEN) {
                return false;
            }
            text.next();
            return readExpression(open + 1) && pass(')');
        }

        private boolean readOperand() {
            int token = text.token();
            if (token == Text.NUMBER) {
                add(Code.NUMBER, text.number());
            } else if (token == 'h') {
                add(Code.READ, HELD);
            } else if (token == 'P' || token == 'Q') {
                add(Code.READ_ALL, token == 'P' ? P_CELLS : Q_CELLS);
            } else if (cellOf(token) >= 0 && !isOwn(token)) {
                add(Code.READ, cellOf(token));
            } else if (isForRule ? !addMoney(token) : !addOfCall(token)) {
                return false;
            }
            text.next();
            return true;
        }

        private boolean addMoney(int token) {
            if (token < Text.MONEY_0 || token > Text.MONEY_3) {
                return false;
            }
            add(Code.READ, MONEY + token - Text.MONEY_0);
            return true;
        }

        private boolean addOfCall(int token) {
            if (isOwn(token)) {
                add(Code.READ_OWN, cellOf(token));
            } else if (token == 'n') {
                add(Code.N, 0);
            } else if (token == 'v') {
                add(Code.V, 0);
            } else if (token == 'w') {
                add(Code.W, 0);
            } else {
                return false;
            }
            return true;
        }

        private boolean pass(int sign) {
            if (text.token() != sign) {
                return false;
            }
            text.next();
            return true;
        }

        private void add(int op, int arg) {
            if (size < ops.length && size < args.length) {
                ops[size] = op;
                args[size] = arg;
                size++;
            }
        }

        private void addLeaves() {
            add(Code.MEET, leaves);
            leaves += 2;
        }

        private static boolean isOwn(int token) {
            return token == 'p' || token == 'q';
        }

        private static int cellOf(int token) {
            if (isOwn(token)) {
                return token == 'p' ? P_CELLS : Q_CELLS;
            }
            return token >= 'a' && token <= 'f' ? token - 'a' : -1;
        }

        private static int sumOp(int sign) {
            switch (sign) {
                case '+':
                    return Code.ADD;
                case '-':
                    return Code.SUBTRACT;
                case '|':
                    return Code.OR;
                default:
                    return 0;
            }
        }

        private static int productOp(int sign) {
            switch (sign) {
                case '*':
                    return Code.MULTIPLY;
                case '/':
                    return Code.DIVIDE;
                case '&':
                    return Code.AND;
                default:
                    return 0;
            }
        }
    }

    /** A CALL: an ACTOR, a METHOD, n and v. */
    private static final class Call {
        final int who;
        final int which;
        final int n;
        final int v;

        Call(int who, int which, int n, int v) {
            this.who = who;
            this.which = which;
            this.n = n;
            this.v = v;
        }
    }

    /** What was told of METHODS and ACTORS, and the LEAVES that were met. */
    private static final class World {
        private final Code[] methods = new Code[METHODS];
        private final int[] metLeaves = new int[METHODS];
        private final int[] money = new int[ACTORS];
        private final Call[] hooks = new Call[ACTORS];
        private boolean isWatching;
        private boolean hasNewLeaf;

        void setMethod(int k, Code code) {
            if (k >= 0 && k < METHODS) {
                methods[k] = code;
                metLeaves[k] = 0;
            }
        }

        /** null: it was not told. */
        Code codeOf(int k) {
            return k >= 0 && k < METHODS ? methods[k] : null;
        }

        int leavesOf(int k) {
            Code code = codeOf(k);
            return code == null ? 0 : code.leaves;
        }

        void setActor(int i, int startMoney, Call hook) {
            if (i >= 0 && i < ACTORS) {
                money[i] = startMoney;
                hooks[i] = hook;
            }
        }

        int moneyAtStart(int i) {
            return i >= 0 && i < ACTORS ? money[i] : 0;
        }

        /** null: it has none. */
        Call hookOf(int i) {
            return i >= 0 && i < ACTORS ? hooks[i] : null;
        }

        void watch() {
            isWatching = true;
            hasNewLeaf = false;
        }

        /** Whether a LEAF was met, since watch(), for the first time. */
        boolean stopWatching() {
            isWatching = false;
            return hasNewLeaf;
        }

        void meet(int k, int leaf) {
            if (isWatching && k >= 0 && k < METHODS && !hasMet(k, leaf)) {
                metLeaves[k] |= 1 << leaf;
                hasNewLeaf = true;
            }
        }

        boolean hasMet(int k, int leaf) {
            return k >= 0 && k < METHODS && ((metLeaves[k] >> leaf) & 1) == 1;
        }

        void unmeetAll() {
            Arrays.fill(metLeaves, 0);
        }
    }

    /** Does CALLS in a STATE of its own, and reckons RULES there. */
    private static final class Machine {
        private static final int MOST_UNDER_WAY = 3;
        private static final long HIGHEST = 1000000000L;
        private static final long OUTSIDE = HIGHEST + 1;
        // Each ( leaves three numbers behind at most (of < or =, of a sum, of a product); 8 are open.
        private static final int STACK_ROOM = 32;

        private final World world;
        private final Call nobody = new Call(0, 0, 0, 0);
        private final int[] now = new int[STATE_SIZE];
        private final int[][] before = new int[MOST_UNDER_WAY][STATE_SIZE];
        private final long[] stack = new long[STACK_ROOM];
        private int top;

        Machine(World world) {
            this.world = world;
        }

        void toStart() {
            Arrays.fill(now, 0);
            for (int i = 0; i < ACTORS; i++) {
                now[MONEY + i] = world.moneyAtStart(i);
            }
        }

        void load(int[] states, int from) {
            if (from >= 0 && from <= states.length - STATE_SIZE) {
                System.arraycopy(states, from, now, 0, STATE_SIZE);
            }
        }

        void save(int[] states, int from) {
            if (from >= 0 && from <= states.length - STATE_SIZE) {
                System.arraycopy(now, 0, states, from, STATE_SIZE);
            }
        }

        boolean isAt(int[] states, int from) {
            if (from < 0 || from > states.length - STATE_SIZE) {
                return false;
            }
            for (int i = 0; i < STATE_SIZE; i++) {
                if (states[from + i] != now[i]) {
                    return false;
                }
            }
            return true;
        }

        int hash() {
            int hash = 0;
            for (int i = 0; i < STATE_SIZE; i++) {
                hash = hash * 31 + now[i];
            }
            return hash ^ (hash >>> 10) ^ (hash >>> 20);
        }

        int cell(int i) {
            return i >= 0 && i < STATE_SIZE ? now[i] : 0;
        }

        /** false: the CALL FAILS, and changes nothing. */
        boolean attempt(Call call) {
            return call != null && perform(call, 1);
        }

        /** false: the RULE is BROKEN. */
        boolean keeps(Code rule) {
            return rule != null && run(rule, nobody, MOST_UNDER_WAY) && pop() != 0;
        }

        private boolean perform(Call call, int underWay) {
            Code code = world.codeOf(call.which);
            int purse = MONEY + call.who;
            if (code == null || underWay < 1 || underWay > MOST_UNDER_WAY || cell(purse) < call.v) {
                return false;
            }
            System.arraycopy(now, 0, before[underWay - 1], 0, STATE_SIZE);
            put(purse, cell(purse) - call.v);
            now[HELD] += call.v;
            boolean done = run(code, call, underWay);
            if (!done) {
                System.arraycopy(before[underWay - 1], 0, now, 0, STATE_SIZE);
            }
            // One that FAILS within E leaves numbers that the one that paid has no room for.
            top = 0;
            return done;
        }

        private boolean run(Code code, Call call, int underWay) {
            top = 0;
            for (int i = 0; i < code.size; i++) {
                int op = code.op(i);
                int arg = code.arg(i);
                switch (op) {
                    case Code.MEET:
                        world.meet(call.which, isZeroOnTop() ? arg + 1 : arg);
                        break;
                    case Code.NEED:
                        if (pop() == 0) {
                            return false;
                        }
                        break;
                    case Code.SKIP:
                        if (pop() == 0) {
                            i = Math.max(i, arg - 1);
                        }
                        break;
                    case Code.WRITE:
                        put(arg, (int) pop());
                        break;
                    case Code.WRITE_OWN:
                        put(arg + call.who, (int) pop());
                        break;
                    case Code.PAY:
                        if (!pay(call, pop(), underWay)) {
                            return false;
                        }
                        break;
                    default:
                        if (!push(reckon(op, arg, call))) {
                            return false;
                        }
                        break;
                }
            }
            return true;
        }

        private boolean pay(Call call, long amount, int underWay) {
            if (amount < 0 || amount > now[HELD]) {
                return false;
            }
            int purse = MONEY + call.who;
            now[HELD] -= (int) amount;
            put(purse, cell(purse) + (int) amount);
            Call hook = world.hookOf(call.who);
            if (hook != null && underWay < MOST_UNDER_WAY) {
                perform(hook, underWay + 1);
            }
            return true;
        }

        private long reckon(int op, int arg, Call call) {
            switch (op) {
                case Code.NUMBER:
                    return arg;
                case Code.READ:
                    return cell(arg);
                case Code.READ_OWN:
                    return cell(arg + call.who);
                case Code.READ_ALL:
                    return (long) cell(arg) + cell(arg + 1) + cell(arg + 2) + cell(arg + 3);
                case Code.N:
                    return call.n;
                case Code.V:
                    return call.v;
                case Code.W:
                    return call.who;
                case Code.NOT:
                    return pop() == 0 ? 1 : 0;
                case Code.NEGATE:
                    return -pop();
                default:
                    long right = pop();
                    long left = pop();
                    return operate(op, left, right);
            }
        }

        private static long operate(int op, long left, long right) {
            switch (op) {
                case Code.ADD:
                    return left + right;
                case Code.SUBTRACT:
                    return left - right;
                case Code.OR:
                    return left != 0 || right != 0 ? 1 : 0;
                case Code.MULTIPLY:
                    return left * right;
                case Code.DIVIDE:
                    return right == 0 ? OUTSIDE : left / right;
                case Code.AND:
                    return left != 0 && right != 0 ? 1 : 0;
                case Code.LESS:
                    return left < right ? 1 : 0;
                case Code.SAME:
                    return left == right ? 1 : 0;
                default:
                    return OUTSIDE;
            }
        }

        private boolean push(long number) {
            if (number < -HIGHEST || number > HIGHEST || top < 0 || top >= STACK_ROOM) {
                return false;
            }
            stack[top] = number;
            top++;
            return true;
        }

        private long pop() {
            if (top < 1 || top > STACK_ROOM) {
                return 0;
            }
            top--;
            return stack[top];
        }

        private boolean isZeroOnTop() {
            return top < 1 || top > STACK_ROOM || stack[top - 1] == 0;
        }

        private void put(int i, int number) {
            if (i >= 0 && i < STATE_SIZE) {
                now[i] = number;
            }
        }
    }

    /** ROWS of the numbers of CHOICES, as many as there is room for. */
    private static final class Rows {
        private final int room;
        private final int[] numbers;
        private final int[] lengths;
        private int size;

        Rows(int room) {
            this.room = Math.max(0, room);
            numbers = new int[this.room * ROW_CALLS];
            lengths = new int[this.room];
        }

        int size() {
            return size;
        }

        boolean isFull() {
            return size >= room;
        }

        boolean has(int number) {
            return number >= 0 && number < size;
        }

        void clear() {
            size = 0;
        }

        /** Its number, or FULL. */
        int add(int[] row, int length) {
            if (isFull()) {
                return FULL;
            }
            int fitting = Math.max(0, Math.min(length, Math.min(row.length, ROW_CALLS)));
            System.arraycopy(row, 0, numbers, size * ROW_CALLS, fitting);
            lengths[size] = fitting;
            size++;
            return size - 1;
        }

        /** How many calls of it stand in the given row then. */
        int copy(int number, int[] row) {
            if (!has(number) || row.length < lengths[number]) {
                return 0;
            }
            System.arraycopy(numbers, number * ROW_CALLS, row, 0, lengths[number]);
            return lengths[number];
        }

        int tell(int number, int i) {
            if (!has(number) || i < -1 || i >= lengths[number]) {
                return BAD;
            }
            return i == -1 ? lengths[number] : numbers[number * ROW_CALLS + i];
        }
    }

    /** The STATES that EVERY has gone to, in the order in which they came. */
    private static final class Known {
        private static final int ROOM = 400;
        // A power of two, well above ROOM, so that a free slot is near.
        private static final int SLOTS = 1024;

        private final int[] states = new int[ROOM * STATE_SIZE];
        private final int[] parents = new int[ROOM];
        private final int[] choices = new int[ROOM];
        private final int[] depths = new int[ROOM];
        // One more than the number of the STATE there; 0: free.
        private final int[] slots = new int[SLOTS];
        private int size;

        int size() {
            return size;
        }

        boolean isFull() {
            return size >= ROOM;
        }

        void clear() {
            Arrays.fill(slots, 0);
            size = 0;
        }

        int depth(int number) {
            return number >= 0 && number < size ? depths[number] : 0;
        }

        void enter(int number, Machine machine) {
            if (number >= 0 && number < size) {
                machine.load(states, number * STATE_SIZE);
            }
        }

        /** A free slot for the machine's STATE; -1: that is there already. */
        int slotFor(Machine machine) {
            int first = machine.hash();
            for (int step = 0; step < SLOTS; step++) {
                int slot = (first + step) & (SLOTS - 1);
                int number = slots[slot] - 1;
                if (number < 0) {
                    return slot;
                }
                if (machine.isAt(states, number * STATE_SIZE)) {
                    return -1;
                }
            }
            return -1;
        }

        /** parent: the STATE that the choice led from; -1: this is THE START. */
        void add(Machine machine, int slot, int parent, int choice) {
            if (isFull() || slot < 0 || slot >= SLOTS) {
                return;
            }
            machine.save(states, size * STATE_SIZE);
            parents[size] = parent;
            choices[size] = choice;
            depths[size] = parent < 0 ? 0 : depth(parent) + 1;
            size++;
            slots[slot] = size;
        }

        /** How many calls the ROW has that leads to a STATE and does one choice there. */
        int rowThrough(int number, int choice, int[] row) {
            int length = Math.min(depth(number) + 1, row.length);
            int from = number;
            int last = choice;
            for (int i = length - 1; i >= 0; i--) {
                row[i] = last;
                if (from >= 0 && from < size) {
                    last = choices[from];
                    from = parents[from];
                }
            }
            return length;
        }
    }

    /** The CHOICES, and what is done with ROWS of them. */
    private static final class Runner {
        private final Machine machine;
        private final Known known = new Known();
        private final Call[] choices = new Call[CHOICES];
        private final int[] trial = new int[ROW_CALLS];
        private int count;
        private int statesSeen;

        Runner(Machine machine) {
            this.machine = machine;
        }

        int choiceCount() {
            return count;
        }

        void addChoice(Call call) {
            if (count < CHOICES) {
                choices[count] = call;
                count++;
            }
        }

        void dropChoices() {
            count = 0;
        }

        int statesSeen() {
            return statesSeen;
        }

        void doAll(int[] row, int length) {
            machine.toStart();
            for (int i = 0; i < length && i < row.length; i++) {
                machine.attempt(choiceAt(row[i]));
            }
        }

        /** NONE: at no call. */
        int breaksAt(int[] row, int length, Code rule) {
            machine.toStart();
            for (int i = 0; i < length && i < row.length; i++) {
                machine.attempt(choiceAt(row[i]));
                if (!machine.keeps(rule)) {
                    return i;
                }
            }
            return NONE;
        }

        /** Makes a row LEAST that BREAKS the rule at its last call: how many calls are left. */
        int makeLeast(int[] row, int length, Code rule) {
            int left = Math.min(length, Math.min(row.length, ROW_CALLS));
            // Each turn but the last one takes a call away, so there are not more of them.
            for (int turn = 0; turn < ROW_CALLS; turn++) {
                int before = left;
                for (int i = left - 1; i >= 0; i--) {
                    tryWithout(row, left, i);
                    int broken = breaksAt(trial, left - 1, rule);
                    if (broken != NONE) {
                        left = broken + 1;
                        System.arraycopy(trial, 0, row, 0, left);
                    }
                }
                if (left == before) {
                    break;
                }
            }
            return left;
        }

        /** EVERY: how many calls the ROW has that BREAKS the rule; 0: there is none; NONE: not known. */
        int seek(Code rule, int calls, int[] row) {
            known.clear();
            machine.toStart();
            known.add(machine, known.slotFor(machine), -1, -1);
            statesSeen = 1;
            for (int from = 0; from < Known.ROOM && from < known.size(); from++) {
                boolean mayGoOn = known.depth(from) + 1 < calls;
                for (int i = 0; i < count; i++) {
                    known.enter(from, machine);
                    machine.attempt(choiceAt(i));
                    if (!machine.keeps(rule)) {
                        return known.rowThrough(from, i, row);
                    }
                    int slot = mayGoOn ? known.slotFor(machine) : -1;
                    if (slot >= 0) {
                        statesSeen++;
                        if (known.isFull()) {
                            return NONE;
                        }
                        known.add(machine, slot, from, i);
                    }
                }
            }
            return 0;
        }

        private void tryWithout(int[] row, int length, int i) {
            if (i >= 0 && i < length && length <= row.length && length <= trial.length) {
                System.arraycopy(row, 0, trial, 0, i);
                System.arraycopy(row, i + 1, trial, i, length - 1 - i);
            }
        }

        /** null: there is no such CHOICE. */
        private Call choiceAt(int number) {
            return number >= 0 && number < count ? choices[number] : null;
        }
    }

    /** Draws ROWS, and keeps those that meet something new. */
    private static final class Drawer {
        private static final int MOST_MORE = 6;

        private final Runner runner;
        private final World world;
        private final Rows keptRows = new Rows(KEPT);
        private int x;

        Drawer(Runner runner, World world) {
            this.runner = runner;
            this.world = world;
        }

        int keptCount() {
            return keptRows.size();
        }

        int tellKept(int number, int i) {
            return keptRows.tell(number, i);
        }

        void forget() {
            keptRows.clear();
            world.unmeetAll();
        }

        /** How many calls of the row were done when it broke the rule; NONE: no row does. */
        int drawUntilBroken(Code rule, int seed, int times, int[] row) {
            x = seed;
            for (int i = 0; i < times; i++) {
                int length = drawInto(row);
                world.watch();
                int broken = runner.breaksAt(row, length, rule);
                boolean isNew = world.stopWatching();
                int done = broken == NONE ? length : broken + 1;
                if (isNew && !keptRows.isFull()) {
                    keptRows.add(row, done);
                }
                if (broken != NONE) {
                    return done;
                }
            }
            return NONE;
        }

        private int drawInto(int[] row) {
            int choices = runner.choiceCount();
            if (choices <= 0) {
                return 0;
            }
            int length = 0;
            int r = drawNumber();
            if (keptRows.size() > 0 && r % 2 == 1) {
                length = keptRows.copy(r / 2 % keptRows.size(), row);
            }
            int whole = Math.min(length + 1 + drawNumber() % MOST_MORE, Math.min(row.length, ROW_CALLS));
            for (int i = length; i < whole; i++) {
                row[i] = drawNumber() % choices;
            }
            return whole;
        }

        private int drawNumber() {
            x = x * 1103515245 + 12345;
            return x >>> 16;
        }
    }
}
