/** A house for equations that rules decide. What it promises is told in DOC.md, whose words are used here. */
public final class NarrowHouse {
    public static final int NONE = -1;

    private static final int TAPE_ROOM = 1600;
    private static final int OUT_ROOM = 1000;
    private static final int SYMBOL_ROOM = 16;
    private static final int RULE_ROOM = 16;
    private static final int ARITY_MOST = 4;
    private static final int NAME_SIGNS = 8;
    private static final int RULE_VARIABLES = 8;
    private static final int GOAL_VARIABLES = 6;
    private static final int TEXT_SIZE = 40;
    private static final int TREE_SIZE = 100;
    private static final int FORM_SIZE = 200;
    private static final int STEP_MOST = 1000;
    private static final int PAIR_ROOM = 200;
    private static final int CELL_ROOM = 30000;
    private static final int NODE_ROOM = 1000;
    private static final int ANSWER_ROOM = 300;
    private static final int EXPAND_MOST = 100;

    /** No loop ever turns so often; it is there that each has an end. */
    private static final int MANY = 1000000;

    // A row of cells holds TERMS one behind the other, each a SYMBOL ahead of its ARGUMENTS.
    // A cell is a SYMBOL's number, with MARK added where it is MARKED, or -1 - v for VARIABLE v.
    private static final int MARK = 32;
    private static final int PLAIN = 31;
    private static final int UNKNOWN = 16;

    /** Two sides and the VALUES of a NODE, and behind them a RULE. */
    private static final int NODE_CELLS = TREE_SIZE * (2 + GOAL_VARIABLES);
    private static final int BENCH_CELLS = NODE_CELLS + 2 * TEXT_SIZE;
    private static final int BENCH_VARIABLES = NODE_CELLS + RULE_VARIABLES;

    private static final int FAULT_TOKEN = 1;
    private static final int FAULT_PLACE = 2;
    private static final int FAULT_MANY = 3;
    private static final int FAULT_TWICE = 4;
    private static final int FAULT_NO_SYMBOL = 5;
    private static final int FAULT_ARITY = 6;
    private static final int FAULT_RULE = 7;

    private static final int GREAT = -2;
    private static final int TIRED = -3;
    private static final int FAULTY = -4;

    private final Text text = new Text();
    private final Reader reader = new Reader(text);
    private final Bench bench = new Bench();
    private final Bench probe = new Bench();
    private final Reducer reducer = new Reducer();
    private final Pairs pairs = new Pairs(bench, reducer);
    private final Tree tree = new Tree(bench, probe);
    private final Page page = new Page();
    private Book book = new Book();
    private Book spareBook = new Book();
    private Equation said = new Equation();
    private boolean ruled;

    public NarrowHouse() {
    }

    public int feed(int a, int b, int c, int d, int e) {
        if (text.held + 20 > TAPE_ROOM) return NONE;
        text.append(a);
        text.append(b);
        text.append(c);
        text.append(d);
        text.append(e);
        return text.held;
    }

    public int system(int n) {
        if (text.lacks(n)) return NONE;
        if (reader.readSystem(n, spareBook) != 0) return reader.kind;
        Book old = book;
        book = spareBook;
        spareBook = old;
        ruled = true;
        tree.standing = false;
        reducer.prepare(book);
        pairs.search(book);
        return 0;
    }

    public int fault(int what) {
        if (what == 0) return reader.kind;
        return what == 1 ? reader.place : NONE;
    }

    public int count(int what) {
        switch (what) {
            case 0: return book.symbols;
            case 1: return book.rules;
            case 2: return pairs.total;
            case 3: return pairs.joining;
            case 4: return pairs.undecided;
            case 5: return page.kept();
            default: return NONE;
        }
    }

    public int pair(int k, int what) {
        return pairs.tell(k, what);
    }

    public int normal(int n) {
        if (!ruled || text.lacks(n)) return NONE;
        if (reader.readTerm(n, book, said) != 0) return FAULTY;
        int steps = reducer.reduce(said.code, 0, said.size, book);
        if (steps < 0) return steps;
        int[] form = probe.made;
        reducer.takeForm(form, book);
        page.begin();
        page.nameAll(said);
        page.writeTerm(form, 0, book);
        return steps;
    }

    public int unify(int n) {
        if (!ruled || text.lacks(n)) return NONE;
        if (reader.readGoal(n, book, said) != 0) return FAULTY;
        probe.takeGoal(said, 0);
        probe.load(probe.made, 0, probe.size, book);
        if (!probe.unifies(0, said.left)) return 0;
        probe.begin(NONE, NONE);
        if (!probe.putValues(said.size, said.variables)) return 2;
        probe.rename();
        showValues(probe.made, 0, said);
        return 1;
    }

    public int goal(int n, boolean full) {
        if (!ruled || text.lacks(n)) return NONE;
        if (reader.readGoal(n, book, said) != 0) return reader.kind;
        Equation old = tree.goal;
        tree.goal = said;
        said = old;
        tree.plant(full, book);
        return 0;
    }

    public int expand(int n) {
        if (n < 1 || n > EXPAND_MOST || !tree.standing) return NONE;
        int done = 0;
        for (int k = 0; k < n && tree.waits(); k++) {
            if (tree.grow(book)) done++;
        }
        return done;
    }

    public int tree(int what) {
        return tree.tell(what);
    }

    public int node(int i, int what) {
        return tree.tellNode(i, what);
    }

    public int answer(int k, int what) {
        if (!tree.hasAnswer(k)) return NONE;
        if (what == 0) return tree.answerNode[k];
        if (what != 1) return NONE;
        int left = tree.putGoal(k, book);
        if (left == NONE) return 2;
        return reducer.joins(probe.made, left, probe.size, book);
    }

    public boolean covers(int a, int b) {
        return tree.hasAnswer(a) && tree.hasAnswer(b) && tree.matches(a, b, book);
    }

    public int show(int what, int k) {
        switch (what) {
            case 0: return showRule(k);
            case 1: return showPair(k);
            case 2: return showEquation(k);
            case 3: return tree.hasNode(k) ? showValues(tree.store, tree.valuesStart(k), tree.goal) : NONE;
            case 4: return tree.hasAnswer(k) ? showValues(tree.store, tree.answerStart[k], tree.goal) : NONE;
            default: return NONE;
        }
    }

    public int out(int i) {
        return i >= 0 && i < page.kept() ? page.bytes[i] : NONE;
    }

    private int showRule(int k) {
        if (k < 0 || k >= book.rules) return NONE;
        Equation rule = book.rule[k];
        page.begin();
        page.nameAll(rule);
        page.writeTerm(rule.code, 0, book);
        page.write('-');
        page.write('>');
        page.writeTerm(rule.code, rule.left, book);
        return page.total;
    }

    private int showPair(int k) {
        if (!pairs.rebuild(k, book)) return NONE;
        page.begin();
        return showSides(bench.made, 0);
    }

    private int showEquation(int k) {
        if (!tree.hasNode(k)) return NONE;
        page.begin();
        page.nameValues(tree.store, tree.valuesStart(k), tree.goal, book);
        return showSides(tree.store, tree.nodeStart(k));
    }

    private int showSides(int[] row, int from) {
        int middle = page.writeTerm(row, from, book);
        page.write('=');
        page.writeTerm(row, middle, book);
        return page.total;
    }

    private int showValues(int[] row, int from, Equation goal) {
        page.begin();
        page.nameValues(row, from, goal, book);
        int at = from;
        for (int v = 0; v < goal.variables; v++) {
            if (v > 0) page.write(',');
            page.writeName(goal.name[v]);
            page.write('=');
            at = page.writeTerm(row, at, book);
        }
        return page.total;
    }

    /** The tape, and the TOKENS of the text that is taken from it. */
    private static final class Text {
        static final int END = 0;
        static final int NAME = 1;
        static final int VARIABLE = 2;
        static final int NUMBER = 3;
        static final int OPEN = 4;
        static final int CLOSE = 5;
        static final int COMMA = 6;
        static final int SEMICOLON = 7;
        static final int EQUALS = 8;
        static final int ARROW = 9;
        static final int SYM = 10;
        static final int RULE = 11;
        static final int BAD = 12;

        // NAMES and VARIABLES are told as one number, a byte for each sign.
        static final long SYM_NAME = 0x73796dL;
        static final long RULE_NAME = 0x72756c65L;

        final int[] bytes = new int[TAPE_ROOM];
        int held;
        int length;
        int at;
        int kind;
        int start;
        int digit;
        long name;

        void append(int four) {
            for (int shift = 24; shift >= 0 && held < TAPE_ROOM; shift -= 8) {
                bytes[held] = four >>> shift & 255;
                held++;
            }
        }

        boolean lacks(int n) {
            return n < 0 || n > held;
        }

        void begin(int n) {
            length = n;
            held = 0;
            at = 0;
            advance();
        }

        void advance() {
            for (; at < length && (bytes[at] == ' ' || bytes[at] == '\n'); at++) {
            }
            start = at;
            if (at >= length) {
                kind = END;
                return;
            }
            kind = kindOf(bytes[at]);
            if (kind == NAME || kind == VARIABLE) {
                readWord();
                return;
            }
            digit = bytes[at] - '0';
            at++;
            if (kind != ARROW) return;
            if (at < length && bytes[at] == '>') at++;
            else kind = BAD;
        }

        private void readWord() {
            name = 0;
            for (; at < length && isWordKind(kindOf(bytes[at])); at++) {
                name = name << 8 | bytes[at];
            }
            if (at - start > NAME_SIGNS) kind = BAD;
            else if (name == SYM_NAME) kind = SYM;
            else if (name == RULE_NAME) kind = RULE;
        }

        private static boolean isWordKind(int kind) {
            return kind == NAME || kind == VARIABLE || kind == NUMBER;
        }

        /** The kind of TOKEN that begins with a sign. */
        private static int kindOf(int c) {
            if (c >= 'a' && c <= 'z') return NAME;
            if (c >= 'A' && c <= 'Z') return VARIABLE;
            if (c >= '0' && c <= '9') return NUMBER;
            switch (c) {
                case '(': return OPEN;
                case ')': return CLOSE;
                case ',': return COMMA;
                case ';': return SEMICOLON;
                case '=': return EQUALS;
                case '-': return ARROW;
                default: return BAD;
            }
        }
    }

    /** The two TERMS of a RULE or a GOAL, or one TERM alone (all left), as they were read. */
    private static final class Equation {
        final int[] code = new int[2 * TEXT_SIZE];
        /** The cell behind the TERM that begins here. */
        final int[] next = new int[2 * TEXT_SIZE];
        /** Where the TOKEN stood in its text. */
        final int[] place = new int[2 * TEXT_SIZE];
        /** Both sides (each in its own part) with the ARGUMENTS from the right. */
        final int[] mirror = new int[2 * TEXT_SIZE];
        final long[] name = new long[RULE_VARIABLES];
        int left;
        int size;
        int variables;
        int leftVariables;
        int signPlace;

        void clear() {
            left = 0;
            size = 0;
            variables = 0;
            leftVariables = 0;
            signPlace = NONE;
        }

        void closeLeft(int sign) {
            left = size;
            leftVariables = variables;
            signPlace = sign;
        }

        /** The number of the VARIABLE, NONE if it would be one more than most. */
        int variable(long told, int most) {
            for (int v = 0; v < variables; v++) {
                if (name[v] == told) return v;
            }
            if (variables >= most || variables >= RULE_VARIABLES) return NONE;
            name[variables] = told;
            variables++;
            return variables - 1;
        }

        void add(int cell, int at) {
            if (size >= code.length) return;
            code[size] = cell;
            place[size] = at;
            size++;
            next[size - 1] = size;
        }

        int argumentsGiven(int cell) {
            int given = 0;
            for (int a = cell + 1; given < TEXT_SIZE && a < next[cell]; given++) a = next[a];
            return given;
        }
    }

    /** A SYSTEM. */
    private static final class Book {
        final long[] name = new long[SYMBOL_ROOM];
        final int[] arity = new int[SYMBOL_ROOM];
        final int[] place = new int[SYMBOL_ROOM];
        final Equation[] rule = new Equation[RULE_ROOM];
        int symbols;
        int rules;

        Book() {
            for (int k = 0; k < RULE_ROOM; k++) rule[k] = new Equation();
        }

        int symbolOf(long told) {
            for (int s = 0; s < symbols; s++) {
                if (name[s] == told) return s;
            }
            return UNKNOWN;
        }

        int argumentsOf(int cell) {
            int symbol = cell & PLAIN;
            return cell < 0 || symbol >= SYMBOL_ROOM ? 0 : arity[symbol];
        }

        /** The place behind the TERM that begins at a place of the row. */
        int behind(int[] row, int from) {
            int at = from;
            int wanted = 1;
            for (; wanted > 0 && at < row.length; at++) {
                wanted += argumentsOf(row[at]) - 1;
            }
            return at;
        }
    }

    /** Reads texts, and finds the first FAULT in them. */
    private static final class Reader {
        final Text text;
        final Order order = new Order();
        /** The cells whose ARGUMENTS are being read. */
        final int[] open = new int[TEXT_SIZE];
        int kind = NONE;
        int place = NONE;

        Reader(Text text) {
            this.text = text;
        }

        int readSystem(int n, Book book) {
            begin(n);
            book.symbols = 0;
            book.rules = 0;
            boolean fine = readSymbols(book);
            for (int k = 0; k < RULE_ROOM && fine && text.kind == Text.RULE; k++) {
                text.advance();
                fine = readTwo(book, book.rule[k], Text.ARROW, RULE_VARIABLES) && take(Text.SEMICOLON);
                book.rules = k + 1;
            }
            fine = fine && hasNoMoreRules() && checkSymbols(book);
            for (int k = 0; k < book.rules && fine; k++) {
                fine = checkNames(book, book.rule[k]) && checkRule(book.rule[k]);
            }
            return kind;
        }

        int readGoal(int n, Book book, Equation goal) {
            begin(n);
            boolean fine = readTwo(book, goal, Text.EQUALS, GOAL_VARIABLES) && isLast(Text.END);
            if (fine) checkNames(book, goal);
            return kind;
        }

        int readTerm(int n, Book book, Equation term) {
            begin(n);
            term.clear();
            boolean fine = readSide(book, term, GOAL_VARIABLES) && isLast(Text.END);
            term.closeLeft(NONE);
            if (fine) checkNames(book, term);
            return kind;
        }

        private void begin(int n) {
            kind = 0;
            place = NONE;
            text.begin(n);
        }

        private boolean refuse(int fault, int at) {
            kind = fault;
            place = at;
            return false;
        }

        private boolean isLast(int token) {
            if (text.kind == token) return true;
            return refuse(text.kind == Text.BAD ? FAULT_TOKEN : FAULT_PLACE, text.start);
        }

        private boolean take(int token) {
            if (!isLast(token)) return false;
            text.advance();
            return true;
        }

        private boolean readSymbols(Book book) {
            if (!take(Text.SYM)) return false;
            for (int k = 0; k <= SYMBOL_ROOM; k++) {
                if (!readTold(book)) return false;
                if (text.kind != Text.COMMA) break;
                text.advance();
            }
            return take(Text.SEMICOLON);
        }

        private boolean readTold(Book book) {
            if (!isLast(Text.NAME)) return false;
            int symbol = book.symbols;
            if (symbol >= SYMBOL_ROOM) return refuse(FAULT_MANY, text.start);
            book.name[symbol] = text.name;
            book.place[symbol] = text.start;
            book.symbols++;
            text.advance();
            if (!isLast(Text.NUMBER)) return false;
            if (text.digit > ARITY_MOST) return refuse(FAULT_PLACE, text.start);
            book.arity[symbol] = text.digit;
            text.advance();
            return true;
        }

        private boolean hasNoMoreRules() {
            return text.kind == Text.RULE ? refuse(FAULT_MANY, text.start) : isLast(Text.END);
        }

        private boolean readTwo(Book book, Equation two, int sign, int most) {
            two.clear();
            if (!readSide(book, two, most)) return false;
            two.closeLeft(text.start);
            return take(sign) && readSide(book, two, most);
        }

        private boolean readSide(Book book, Equation two, int most) {
            int from = two.size;
            int depth = 0;
            boolean wanted = true;
            for (int turn = 0; turn <= TAPE_ROOM && (wanted || depth > 0); turn++) {
                if (wanted) {
                    int cell = two.size;
                    boolean named = text.kind == Text.NAME;
                    if (!readHead(book, two, from, most)) return false;
                    wanted = named && text.kind == Text.OPEN && depth < TEXT_SIZE;
                    if (wanted) {
                        open[depth] = cell;
                        depth++;
                        text.advance();
                    }
                } else if (text.kind == Text.COMMA) {
                    wanted = true;
                    text.advance();
                } else {
                    if (!take(Text.CLOSE)) return false;
                    depth--;
                    two.next[open[depth]] = two.size;
                }
            }
            return true;
        }

        private boolean readHead(Book book, Equation two, int from, int most) {
            if (text.kind != Text.VARIABLE && !isLast(Text.NAME)) return false;
            if (two.size - from >= TEXT_SIZE) return refuse(FAULT_MANY, text.start);
            int cell;
            if (text.kind == Text.NAME) {
                cell = book.symbolOf(text.name);
            } else {
                int v = two.variable(text.name, most);
                if (v == NONE) return refuse(FAULT_MANY, text.start);
                cell = -1 - v;
            }
            two.add(cell, text.start);
            text.advance();
            return true;
        }

        private boolean checkSymbols(Book book) {
            for (int s = 0; s < book.symbols; s++) {
                if (book.symbolOf(book.name[s]) < s) return refuse(FAULT_TWICE, book.place[s]);
            }
            return true;
        }

        private boolean checkNames(Book book, Equation two) {
            for (int c = 0; c < two.size; c++) {
                int symbol = two.code[c];
                if (symbol == UNKNOWN) return refuse(FAULT_NO_SYMBOL, two.place[c]);
                if (two.argumentsGiven(c) != book.argumentsOf(symbol)) return refuse(FAULT_ARITY, two.place[c]);
            }
            return true;
        }

        private boolean checkRule(Equation rule) {
            if (rule.code[0] < 0) return refuse(FAULT_RULE, rule.place[0]);
            for (int c = rule.left; c < rule.size; c++) {
                // VARIABLES are numbered as they come, those of the left TERM first
                if (-1 - rule.code[c] >= rule.leftVariables) return refuse(FAULT_RULE, rule.place[c]);
            }
            return order.isAbove(rule) || refuse(FAULT_RULE, rule.signPlace);
        }
    }

    /** Whether the left TERM of a RULE is ABOVE the right one: settled for all their parts, the last ones first. */
    private static final class Order {
        /** For a part of the left TERM and one of the right TERM, by their places in these. */
        final boolean[] above = new boolean[TEXT_SIZE * TEXT_SIZE];

        boolean isAbove(Equation rule) {
            for (int s = rule.left - 1; s >= 0; s--) {
                for (int t = rule.size - 1; t >= rule.left; t--) {
                    above[s * TEXT_SIZE + t - rule.left] = settles(rule, s, t);
                }
            }
            return above[0];
        }

        private boolean settles(Equation rule, int s, int t) {
            if (rule.code[s] < 0) return false;
            int a = s + 1;
            for (int k = 0; k < ARITY_MOST && a < rule.next[s]; k++) {
                if (isSame(rule, a, t) || isAboveAt(rule, a, t)) return true;
                a = rule.next[a];
            }
            if (rule.code[t] < 0 || rule.code[s] < rule.code[t]) return false;
            int b = t + 1;
            for (int k = 0; k < ARITY_MOST && b < rule.next[t]; k++) {
                if (!isAboveAt(rule, s, b)) return false;
                b = rule.next[b];
            }
            return rule.code[s] > rule.code[t] || isAboveInArguments(rule, s, t);
        }

        private boolean isAboveInArguments(Equation rule, int s, int t) {
            int a = s + 1;
            int b = t + 1;
            for (int k = 0; k < ARITY_MOST && a < rule.next[s] && b < rule.next[t]; k++) {
                if (!isSame(rule, a, b)) return isAboveAt(rule, a, b);
                a = rule.next[a];
                b = rule.next[b];
            }
            return false;
        }

        private boolean isAboveAt(Equation rule, int s, int t) {
            return above[s * TEXT_SIZE + t - rule.left];
        }

        private boolean isSame(Equation rule, int s, int t) {
            int size = rule.next[s] - s;
            if (size != rule.next[t] - t) return false;
            for (int k = 0; k < size; k++) {
                if (rule.code[s + k] != rule.code[t + k]) return false;
            }
            return true;
        }
    }

    /**
     * Where TERMS UNIFY. Parts that are to be the same are joined into classes, so that
     * no TERM is ever written out while this is looked for, however great it would be.
     */
    private static final class Bench {
        static final int BARE = 0;
        static final int AS_THEY_WERE = 1;
        static final int ALL = 2;

        /** Each part in a class is put on it twice at most, with four ARGUMENTS. */
        static final int STACK_ROOM = 2048;

        final int[] code = new int[BENCH_CELLS];
        final int[] next = new int[BENCH_CELLS];
        int cells;
        int variables;

        // Of a cell, or (behind all cells) of a VARIABLE: the way to its class, and for
        // the class: a cell with a SYMBOL in it (NONE without), how far it is searched.
        final int[] link = new int[BENCH_CELLS + BENCH_VARIABLES];
        final int[] heir = new int[BENCH_CELLS + BENCH_VARIABLES];
        final int[] shade = new int[BENCH_CELLS + BENCH_VARIABLES];
        /** What has not the number of this attempt is a class alone yet. */
        final int[] attempt = new int[BENCH_CELLS + BENCH_VARIABLES];
        int attempts;

        final int[] stack = new int[STACK_ROOM];

        /** What is written out. */
        final int[] made = new int[NODE_CELLS];
        final int[] fresh = new int[BENCH_VARIABLES];
        int size;
        int hole = NONE;
        int patch = NONE;

        /** Writes a GOAL, and behind it each of its VARIABLES, as VALUES. */
        void takeGoal(Equation goal, int mark) {
            size = 0;
            for (int c = 0; c < goal.size; c++) {
                write(goal.code[c] < 0 ? goal.code[c] : goal.code[c] | mark);
            }
            for (int v = 0; v < goal.variables; v++) write(-1 - v);
        }

        void load(int[] row, int from, int count, Book book) {
            cells = 0;
            variables = 0;
            if (from < 0 || count < 0 || count > NODE_CELLS || from > row.length - count) return;
            cells = count;
            for (int c = count - 1; c >= 0; c--) {
                code[c] = row[from + c];
                variables = Math.max(variables, -code[c]);
                int end = c + 1;
                for (int k = book.argumentsOf(code[c]); k > 0 && end < count; k--) end = next[end];
                next[c] = end;
            }
        }

        /** Puts a RULE with new VARIABLES behind what is loaded; the next one takes its place. */
        void add(Equation rule) {
            for (int c = 0; c < rule.size && cells + c < BENCH_CELLS; c++) {
                int cell = rule.code[c];
                if (cell < 0) code[cells + c] = cell - variables;
                else code[cells + c] = c < rule.left ? cell : cell | MARK;
                next[cells + c] = cells + rule.next[c];
            }
        }

        boolean unifies(int a, int b) {
            attempts++;
            stack[0] = a;
            stack[1] = b;
            int top = 2;
            for (int turn = 0; turn < MANY && top >= 2; turn++) {
                top -= 2;
                int x = classOf(stack[top]);
                int y = classOf(stack[top + 1]);
                if (x == y) continue;
                int s = heir[x];
                int t = heir[y];
                link[x] = y;
                if (t == NONE) heir[y] = s;
                if (s == NONE || t == NONE) continue;
                if ((code[s] & PLAIN) != (code[t] & PLAIN)) return false;
                top = pushArguments(s, t, top);
            }
            return isFinite(a);
        }

        private int pushArguments(int s, int t, int top) {
            int a = s + 1;
            int b = t + 1;
            int to = top;
            for (int k = 0; k < ARITY_MOST && a < next[s] && b < next[t] && to + 2 <= STACK_ROOM; k++) {
                stack[to] = a;
                stack[to + 1] = b;
                to += 2;
                a = next[a];
                b = next[b];
            }
            return to;
        }

        private int classOf(int cell) {
            int part = code[cell] < 0 ? BENCH_CELLS - 1 - code[cell] : cell;
            if (attempt[part] != attempts) {
                attempt[part] = attempts;
                link[part] = part;
                heir[part] = part < BENCH_CELLS ? part : NONE;
                shade[part] = 0;
                return part;
            }
            int end = part;
            for (int hop = 0; hop < MANY && link[end] != end; hop++) end = link[end];
            link[part] = end;
            return end;
        }

        /** Whether no part has its own class within itself: shade 1 is being searched, 2 has been. */
        private boolean isFinite(int root) {
            int top = pushClass(classOf(root), 0);
            for (int turn = 0; turn < MANY && top >= 2; turn++) {
                int cell = stack[top - 2];
                int part = stack[top - 1];
                if (part >= next[cell]) {
                    shade[classOf(cell)] = 2;
                    top -= 2;
                } else {
                    stack[top - 1] = next[part];
                    int inner = classOf(part);
                    if (shade[inner] == 1) return false;
                    if (shade[inner] == 0) top = pushClass(inner, top);
                }
            }
            return true;
        }

        private int pushClass(int found, int top) {
            int cell = heir[found];
            if (cell == NONE || top + 2 > STACK_ROOM) return top;
            shade[found] = 1;
            stack[top] = cell;
            stack[top + 1] = cell + 1;
            return top + 2;
        }

        /** Nothing is written yet; where the hole is, the patch will be written in place of it. */
        void begin(int hole, int patch) {
            size = 0;
            this.hole = hole;
            this.patch = patch;
        }

        /** Writes a TERM, with what VARIABLES become: its SIZE, NONE if that is above the limit. */
        int put(int start, int limit, int marking) {
            int from = size;
            stack[0] = start;
            int top = 1;
            for (int turn = 0; turn < MANY && top > 0; turn++) {
                top--;
                int cell = stack[top];
                // what comes for a VARIABLE is kept as ~cell
                boolean inner = cell < 0;
                if (inner) cell = ~cell;
                else if (cell == hole) cell = patch;
                if (size - from >= limit) return NONE;
                if (code[cell] < 0) {
                    int found = classOf(cell);
                    if (heir[found] == NONE) {
                        write(BENCH_CELLS - 1 - found);
                        continue;
                    }
                    cell = heir[found];
                    inner = true;
                }
                write(marked(code[cell], inner, marking));
                top = pushParts(cell, inner, top);
            }
            return size - from;
        }

        private static int marked(int cell, boolean inner, int marking) {
            if (marking == ALL) return cell | MARK;
            return inner || marking == BARE ? cell & PLAIN : cell;
        }

        private void write(int cell) {
            if (size >= made.length) return;
            made[size] = cell;
            size++;
        }

        private int pushParts(int cell, boolean inner, int top) {
            int to = top;
            int part = cell + 1;
            for (int k = 0; k < ARITY_MOST && part < next[cell] && to < STACK_ROOM; k++) {
                stack[to] = inner ? ~part : part;
                to++;
                part = next[part];
            }
            // the first one is to be taken first
            for (int low = top, high = to - 1; low < high; low++, high--) {
                int kept = stack[low];
                stack[low] = stack[high];
                stack[high] = kept;
            }
            return to;
        }

        /** Writes so many VALUES, the first of which begins at a cell; false if one is too great. */
        boolean putValues(int from, int count) {
            int at = from;
            for (int v = 0; v < count && at < cells; v++) {
                if (put(at, TREE_SIZE, BARE) == NONE) return false;
                at = next[at];
            }
            return true;
        }

        /** Numbers the VARIABLES of what is written in the order in which they stand first. */
        void rename() {
            for (int v = 0; v < BENCH_VARIABLES && v < variables + RULE_VARIABLES; v++) fresh[v] = NONE;
            int named = 0;
            for (int k = 0; k < size; k++) {
                int v = -1 - made[k];
                if (v < 0) continue;
                if (fresh[v] == NONE) {
                    fresh[v] = named;
                    named++;
                }
                made[k] = -1 - fresh[v];
            }
        }
    }

    /** Brings TERMS to NORMAL FORMS. Rows are mirrored here: a SYMBOL, then its ARGUMENTS from the right. */
    private static final class Reducer {
        /** Added to a cell of a part that has no STEP left in it. */
        static final int SETTLED = 64;

        /** What is to come, its last place first, so that ARGUMENTS come ahead of their SYMBOL. */
        final int[] waiting = new int[FORM_SIZE];
        int top;
        /** What is in NORMAL FORM, from low on, and the SIZES of the parts that begin there. */
        final int[] done = new int[FORM_SIZE];
        final int[] sizes = new int[FORM_SIZE];
        int low;
        int steps;
        int total;
        final int[] first = new int[FORM_SIZE];
        final int[] bound = new int[RULE_VARIABLES];
        final int[] ends = new int[FORM_SIZE];
        final int[] spots = new int[FORM_SIZE];

        void prepare(Book book) {
            for (int k = 0; k < book.rules; k++) {
                Equation rule = book.rule[k];
                mirror(rule.code, 0, rule.left, rule.mirror, 0, book);
                mirror(rule.code, rule.left, rule.size - rule.left, rule.mirror, rule.left, book);
            }
        }

        /** Turns the ARGUMENTS of all SYMBOLS of a TERM round; done twice, it is as it was. */
        private void mirror(int[] row, int from, int size, int[] to, int at, Book book) {
            if (size > FORM_SIZE || from + size > row.length || at + size > to.length) return;
            for (int c = size - 1; c >= 0; c--) {
                int end = c + 1;
                for (int k = book.argumentsOf(row[from + c]); k > 0 && end < size; k--) end = ends[end];
                ends[c] = end;
            }
            spots[0] = 0;
            for (int c = 0; c < size; c++) {
                to[at + spots[c]] = row[from + c];
                int spot = spots[c] + ends[c] - c;
                int a = c + 1;
                for (int k = 0; k < ARITY_MOST && a < ends[c]; k++) {
                    spot -= ends[a] - a;
                    spots[a] = spot;
                    a = ends[a];
                }
            }
        }

        /** The STEPS to the NORMAL FORM, GREAT or TIRED. */
        int reduce(int[] row, int from, int size, Book book) {
            mirror(row, from, size, waiting, 0, book);
            top = size;
            low = FORM_SIZE;
            total = size;
            steps = 0;
            int trouble = 0;
            for (int turn = 0; turn < MANY && top > 0 && trouble == 0; turn++) {
                top--;
                int cell = waiting[top];
                boolean settled = cell < 0 || cell >= SETTLED;
                settle(cell < 0 ? cell : cell & PLAIN, book);
                boolean stepped = false;
                for (int k = 0; k < book.rules && !settled && !stepped; k++) {
                    stepped = fits(book.rule[k]);
                    if (stepped) trouble = contract(book.rule[k]);
                }
            }
            return trouble < 0 ? trouble : steps;
        }

        private void settle(int cell, Book book) {
            int end = low;
            for (int k = book.argumentsOf(cell); k > 0 && end < FORM_SIZE; k--) end += sizes[end];
            if (low <= 0) return;
            low--;
            done[low] = cell;
            sizes[low] = end - low;
        }

        private boolean fits(Equation rule) {
            for (int v = 0; v < RULE_VARIABLES; v++) bound[v] = NONE;
            int at = low;
            for (int c = 0; c < rule.left; c++) {
                if (at >= FORM_SIZE) return false;
                int cell = rule.mirror[c];
                if (cell >= 0) {
                    if (done[at] != cell) return false;
                    at++;
                } else {
                    int v = -1 - cell;
                    if (bound[v] == NONE) bound[v] = at;
                    else if (!isSame(bound[v], at)) return false;
                    at += sizes[at];
                }
            }
            return true;
        }

        private boolean isSame(int a, int b) {
            if (sizes[a] != sizes[b]) return false;
            for (int k = 0; k < sizes[a]; k++) {
                if (done[a + k] != done[b + k]) return false;
            }
            return true;
        }

        private int contract(Equation rule) {
            if (steps >= STEP_MOST) return TIRED;
            steps++;
            int gone = sizes[low];
            total -= gone;
            for (int c = rule.left; c < rule.size; c++) {
                int cell = rule.mirror[c];
                total += cell >= 0 ? 1 : sizes[bound[-1 - cell]];
            }
            if (total > FORM_SIZE) return GREAT;
            for (int c = rule.left; c < rule.size; c++) {
                int cell = rule.mirror[c];
                if (cell < 0) {
                    awaitSettled(bound[-1 - cell]);
                } else if (top < FORM_SIZE) {
                    waiting[top] = cell;
                    top++;
                }
            }
            low += gone;
            return 0;
        }

        private void awaitSettled(int at) {
            for (int k = at; k < at + sizes[at] && top < FORM_SIZE; k++) {
                waiting[top] = done[k] < 0 ? done[k] : done[k] | SETTLED;
                top++;
            }
        }

        /** Writes the NORMAL FORM that was reached last. */
        void takeForm(int[] to, Book book) {
            mirror(done, low, FORM_SIZE - low, to, 0, book);
        }

        /** Whether two TERMS, one behind the other, have one NORMAL FORM: 1, 0, or 2 if that stays open. */
        int joins(int[] row, int left, int size, Book book) {
            if (reduce(row, 0, left, book) < 0) return 2;
            int length = FORM_SIZE - low;
            System.arraycopy(done, low, first, 0, length);
            if (reduce(row, left, size - left, book) < 0) return 2;
            if (FORM_SIZE - low != length) return 0;
            for (int k = 0; k < length; k++) {
                if (done[low + k] != first[k]) return 0;
            }
            return 1;
        }
    }

    /** The PAIRS of a SYSTEM. */
    private static final class Pairs {
        static final int TOLD = 4;

        final Bench bench;
        final Reducer reducer;
        final int[] kept = new int[PAIR_ROOM * TOLD];
        int total;
        int joining;
        int undecided;
        int left;

        Pairs(Bench bench, Reducer reducer) {
            this.bench = bench;
            this.reducer = reducer;
        }

        void search(Book book) {
            total = 0;
            joining = 0;
            undecided = 0;
            for (int i = 0; i < book.rules; i++) {
                for (int p = 0; p < book.rule[i].left; p++) {
                    for (int j = 0; j < book.rules; j++) {
                        if (i == j && p == 0 || !overlap(i, p, j, book)) continue;
                        if (total < PAIR_ROOM) keep(i, p, j, book);
                        total++;
                    }
                }
            }
        }

        private boolean overlap(int i, int p, int j, Book book) {
            Equation outer = book.rule[i];
            Equation inner = book.rule[j];
            if (outer.code[p] != inner.code[0]) return false;
            bench.load(outer.code, 0, outer.size, book);
            bench.add(inner);
            return bench.unifies(p, bench.cells);
        }

        private void keep(int i, int p, int j, Book book) {
            int at = total * TOLD;
            kept[at] = i;
            kept[at + 1] = p;
            kept[at + 2] = j;
            int joins = write(i, p, j, book) ? reducer.joins(bench.made, left, bench.size, book) : 2;
            kept[at + 3] = joins;
            if (joins == 1) joining++;
            if (joins == 2) undecided++;
        }

        /** Writes the two TERMS of an overlap that was just found; false if one is too great. */
        private boolean write(int i, int p, int j, Book book) {
            bench.begin(p, bench.cells + book.rule[j].left);
            left = bench.put(book.rule[i].left, FORM_SIZE, Bench.BARE);
            if (left == NONE || bench.put(0, FORM_SIZE, Bench.BARE) == NONE) return false;
            bench.rename();
            return true;
        }

        boolean rebuild(int k, Book book) {
            if (!holds(k)) return false;
            int at = k * TOLD;
            return overlap(kept[at], kept[at + 1], kept[at + 2], book)
                && write(kept[at], kept[at + 1], kept[at + 2], book);
        }

        private boolean holds(int k) {
            return k >= 0 && k < PAIR_ROOM && k < total;
        }

        int tell(int k, int what) {
            return holds(k) && what >= 0 && what < TOLD ? kept[k * TOLD + what] : NONE;
        }
    }

    /** The TREE. */
    private static final class Tree {
        // What is kept of a NODE, in this order.
        static final int PARENT = 0;
        static final int PLACE = 1;
        static final int RULE = 2;
        static final int DEPTH = 3;
        static final int LEFT = 4;
        static final int RIGHT = 5;
        static final int ANSWER = 6;
        static final int START = 7;
        static final int LENGTH = 8;
        static final int TOLD = 9;

        static final int NODE_COST = 4;
        static final int ANSWER_COST = 2;

        final Bench bench;
        final Bench probe;
        Equation goal = new Equation();
        /** The EQUATIONS and VALUES of NODES, and the VALUES of ANSWERS, as they came. */
        final int[] store = new int[CELL_ROOM];
        final int[] told = new int[NODE_ROOM * TOLD];
        final int[] answerNode = new int[ANSWER_ROOM];
        final int[] answerStart = new int[ANSWER_ROOM];
        final int[] bound = new int[NODE_CELLS];
        boolean standing;
        boolean full;
        int marking;
        int nodes;
        int answers;
        int expanded;
        int lost;
        int filled;

        Tree(Bench bench, Bench probe) {
            this.bench = bench;
            this.probe = probe;
        }

        void plant(boolean all, Book book) {
            standing = true;
            full = false;
            marking = all ? Bench.ALL : Bench.AS_THEY_WERE;
            nodes = 0;
            answers = 0;
            expanded = 0;
            lost = 0;
            filled = 0;
            bench.takeGoal(goal, MARK);
            addNode(goal.left, goal.size - goal.left, NONE);
            tellOrigin(0, NONE, NONE);
            lookAt(0, book);
        }

        boolean waits() {
            return standing && !full && expanded < nodes;
        }

        /** EXPANDS the next NODE; false if the TREE got FULL in it. */
        boolean grow(Book book) {
            int parent = expanded;
            loadNode(bench, parent, book);
            int places = told[parent * TOLD + LEFT] + told[parent * TOLD + RIGHT];
            for (int p = 0; p < places && p < bench.cells; p++) {
                if (!isMarked(bench.code[p])) continue;
                for (int r = 0; r < book.rules; r++) {
                    if ((bench.code[p] & PLAIN) == book.rule[r].code[0] && !narrow(parent, p, r, book)) return false;
                }
            }
            expanded++;
            return true;
        }

        private static boolean isMarked(int cell) {
            return cell >= 0 && (cell & MARK) != 0;
        }

        private void loadNode(Bench to, int node, Book book) {
            to.load(store, told[node * TOLD + START], told[node * TOLD + LENGTH], book);
        }

        /** Makes what comes of a NODE by a RULE at a place, if anything; false if the TREE got FULL. */
        private boolean narrow(int parent, int p, int r, Book book) {
            Equation rule = book.rule[r];
            bench.add(rule);
            if (!bench.unifies(p, bench.cells)) return true;
            bench.begin(p, bench.cells + rule.left);
            int middle = told[parent * TOLD + LEFT];
            int end = middle + told[parent * TOLD + RIGHT];
            int left = bench.put(0, TREE_SIZE, marking);
            int right = left == NONE ? NONE : bench.put(middle, TREE_SIZE, marking);
            if (right == NONE || !bench.putValues(end, goal.variables)) {
                lost++;
                return true;
            }
            if (nodes >= NODE_ROOM || cells() + NODE_COST + bench.size > CELL_ROOM) {
                full = true;
                return false;
            }
            bench.rename();
            int child = addNode(left, right, parent);
            tellOrigin(child, p, r);
            return lookAt(child, book);
        }

        private int cells() {
            return NODE_COST * nodes + ANSWER_COST * answers + filled;
        }

        /** Keeps what the bench has written as a NODE. */
        private int addNode(int left, int right, int parent) {
            int at = nodes * TOLD;
            told[at + PARENT] = parent;
            told[at + DEPTH] = parent == NONE ? 0 : told[parent * TOLD + DEPTH] + 1;
            told[at + LEFT] = left;
            told[at + RIGHT] = right;
            told[at + ANSWER] = NONE;
            told[at + START] = filled;
            told[at + LENGTH] = bench.size;
            keep(bench);
            nodes++;
            return nodes - 1;
        }

        private void tellOrigin(int node, int p, int r) {
            told[node * TOLD + PLACE] = p;
            told[node * TOLD + RULE] = r;
        }

        private void keep(Bench from) {
            if (filled + from.size > CELL_ROOM) return;
            System.arraycopy(from.made, 0, store, filled, from.size);
            filled += from.size;
        }

        /** Gives a NODE its ANSWER, if it has one; false if the TREE got FULL by that. */
        private boolean lookAt(int node, Book book) {
            loadNode(probe, node, book);
            int at = node * TOLD;
            if (!probe.unifies(0, told[at + LEFT])) return true;
            probe.begin(NONE, NONE);
            if (!probe.putValues(told[at + LEFT] + told[at + RIGHT], goal.variables)) {
                lost++;
                return true;
            }
            if (answers >= ANSWER_ROOM || cells() + ANSWER_COST + probe.size > CELL_ROOM) {
                full = true;
                return false;
            }
            probe.rename();
            told[at + ANSWER] = answers;
            answerNode[answers] = node;
            answerStart[answers] = filled;
            answers++;
            keep(probe);
            return true;
        }

        int tell(int what) {
            if (what < 0 || what > 6) return NONE;
            if (!standing) return 0;
            switch (what) {
                case 0: return full ? 3 : waits() ? 1 : 2;
                case 1: return nodes;
                case 2: return expanded;
                case 3: return answers;
                case 4: return lost;
                case 5: return cells();
                default: return goal.variables;
            }
        }

        int tellNode(int i, int what) {
            if (!hasNode(i) || what < 0 || what > 7) return NONE;
            if (what == 6) return countMarked(i);
            return told[i * TOLD + (what == 7 ? ANSWER : what)];
        }

        private int countMarked(int i) {
            int count = 0;
            for (int k = nodeStart(i); k < valuesStart(i); k++) {
                if (isMarked(store[k])) count++;
            }
            return count;
        }

        boolean hasNode(int i) {
            return standing && i >= 0 && i < nodes;
        }

        int nodeStart(int i) {
            return told[i * TOLD + START];
        }

        int valuesStart(int i) {
            return told[i * TOLD + START] + told[i * TOLD + LEFT] + told[i * TOLD + RIGHT];
        }

        boolean hasAnswer(int k) {
            return standing && k >= 0 && k < answers;
        }

        /** Writes both sides of the GOAL with an ANSWER's VALUES on the probe: the left SIZE, NONE if one is too great. */
        int putGoal(int k, Book book) {
            probe.size = 0;
            int left = NONE;
            for (int c = 0; c < goal.size; c++) {
                if (c == goal.left) left = probe.size;
                int from = 0;
                int length = 1;
                if (goal.code[c] < 0) {
                    from = valueStart(k, -1 - goal.code[c], book);
                    length = book.behind(store, from) - from;
                }
                if (probe.size + length - Math.max(left, 0) > FORM_SIZE) return NONE;
                if (goal.code[c] >= 0) probe.write(goal.code[c]);
                else for (int n = from; n < from + length; n++) probe.write(store[n]);
            }
            return left;
        }

        private int valueStart(int k, int v, Book book) {
            int at = answerStart[k];
            for (int skipped = 0; skipped < v; skipped++) at = book.behind(store, at);
            return at;
        }

        /** Whether ANSWER b's VALUES come of ANSWER a's by putting something into the VARIABLES of these. */
        boolean matches(int a, int b, Book book) {
            for (int v = 0; v < NODE_CELLS; v++) bound[v] = NONE;
            int end = valueStart(a, goal.variables, book);
            int other = answerStart[b];
            for (int at = answerStart[a]; at < end && other < CELL_ROOM; at++) {
                int cell = store[at];
                if (cell >= 0) {
                    if (store[other] != cell) return false;
                    other++;
                } else {
                    int v = -1 - cell;
                    int behind = book.behind(store, other);
                    if (bound[v] == NONE) bound[v] = other;
                    else if (!isSame(bound[v], other, behind)) return false;
                    other = behind;
                }
            }
            return true;
        }

        /** Two TERMS that are the same as far as the one of them goes are the same wholly. */
        private boolean isSame(int a, int b, int end) {
            for (int k = 0; b + k < end && a + k < CELL_ROOM; k++) {
                if (store[a + k] != store[b + k]) return false;
            }
            return true;
        }
    }

    /** OUT, and how TERMS are SHOWN there. */
    private static final class Page {
        final int[] bytes = new int[OUT_ROOM];
        int total;
        /** Of a VARIABLE: its name, or -k if it is shown as _k, or 0 if it has not been shown yet. */
        final long[] label = new long[BENCH_VARIABLES];
        int numbered;
        /** How many ARGUMENTS are still to come, of each SYMBOL that is open. */
        final int[] wanted = new int[FORM_SIZE];

        int kept() {
            return Math.min(total, OUT_ROOM);
        }

        void begin() {
            total = 0;
            numbered = 0;
            for (int v = 0; v < BENCH_VARIABLES; v++) label[v] = 0;
        }

        void nameAll(Equation two) {
            for (int v = 0; v < two.variables; v++) label[v] = two.name[v];
        }

        /** A VARIABLE that is a VALUE bears the name of the first VARIABLE of the GOAL that has it. */
        void nameValues(int[] row, int from, Equation goal, Book book) {
            int at = from;
            for (int v = 0; v < goal.variables && at < row.length; v++) {
                int cell = row[at];
                if (cell < 0 && label[-1 - cell] == 0) label[-1 - cell] = goal.name[v];
                at = book.behind(row, at);
            }
        }

        void write(int sign) {
            if (total < OUT_ROOM) bytes[total] = sign;
            total++;
        }

        void writeName(long name) {
            for (int shift = 56; shift >= 0; shift -= 8) {
                int sign = (int) (name >>> shift & 255);
                if (sign != 0) write(sign);
            }
        }

        /** Writes the TERM that begins at a place of the row: the place behind it. */
        int writeTerm(int[] row, int from, Book book) {
            int depth = 0;
            for (int at = from; at < row.length; at++) {
                writeHead(row[at], book);
                int arity = book.argumentsOf(row[at]);
                if (arity > 0 && depth < FORM_SIZE) {
                    write('(');
                    wanted[depth] = arity;
                    depth++;
                } else {
                    depth = writeEnds(depth);
                }
                if (depth == 0) return at + 1;
            }
            return row.length;
        }

        private int writeEnds(int depth) {
            for (int d = depth; d > 0; d--) {
                wanted[d - 1]--;
                if (wanted[d - 1] > 0) {
                    write(',');
                    return d;
                }
                write(')');
            }
            return 0;
        }

        private void writeHead(int cell, Book book) {
            if (cell >= 0) {
                int symbol = cell & PLAIN;
                if (symbol < SYMBOL_ROOM) writeName(book.name[symbol]);
                return;
            }
            int v = -1 - cell;
            if (label[v] == 0) {
                numbered++;
                label[v] = -numbered;
            }
            if (label[v] > 0) writeName(label[v]);
            else writeNumber((int) -label[v]);
        }

        private void writeNumber(int number) {
            write('_');
            int unit = 1;
            for (int k = 0; k < 9 && number / unit >= 10; k++) unit *= 10;
            for (int u = unit; u > 0; u /= 10) write('0' + number / u % 10);
        }
    }
}
