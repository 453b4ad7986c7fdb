import java.util.ArrayList;
import java.util.HashMap;
import java.util.LinkedHashSet;
import java.util.List;
import java.util.Map;

/**
 * The document once more, as slow and plain as it can be said: TERMS are trees that are copied,
 * what makes TERMS the same is put in at once, NORMAL FORMS are looked for from the beginning after each STEP.
 * It shares nothing with the program, and the tests ask both the same.
 */
final class Oracle {
    static final int NONE = -1;

    static final class Term {
        final String head;
        final boolean variable;
        final boolean marked;
        final List<Term> parts;
        final int place;

        Term(String head, boolean variable, boolean marked, List<Term> parts, int place) {
            this.head = head;
            this.variable = variable;
            this.marked = marked;
            this.parts = parts;
            this.place = place;
        }

        static Term variable(String name) {
            return new Term(name, true, false, List.of(), NONE);
        }

        Term with(List<Term> others) {
            return new Term(head, variable, marked, others, place);
        }

        Term marking(boolean mark) {
            if (variable) return this;
            List<Term> others = new ArrayList<>();
            for (Term part : parts) others.add(part.marking(mark));
            return new Term(head, false, mark, others, place);
        }

        long size() {
            long size = 1;
            for (Term part : parts) size += part.size();
            return size;
        }

        boolean same(Term other) {
            if (variable != other.variable || !head.equals(other.head) || parts.size() != other.parts.size()) return false;
            for (int k = 0; k < parts.size(); k++) if (!parts.get(k).same(other.parts.get(k))) return false;
            return true;
        }

        boolean holds(String name) {
            if (variable) return head.equals(name);
            for (Term part : parts) if (part.holds(name)) return true;
            return false;
        }

        void collect(List<Term> all) {
            all.add(this);
            for (Term part : parts) part.collect(all);
        }

        List<Term> places() {
            List<Term> all = new ArrayList<>();
            collect(all);
            return all;
        }

        Term rename(String suffix) {
            if (variable) return variable(head + suffix);
            List<Term> others = new ArrayList<>();
            for (Term part : parts) others.add(part.rename(suffix));
            return with(others);
        }

        /** What is put in keeps its marks. */
        Term put(String name, Term value) {
            if (variable) return head.equals(name) ? value : this;
            List<Term> others = new ArrayList<>();
            for (Term part : parts) others.add(part.put(name, value));
            return with(others);
        }

        Term replace(int at, Term other) {
            if (at == 0) return other;
            int from = 1;
            List<Term> others = new ArrayList<>();
            for (Term part : parts) {
                int size = (int) part.size();
                boolean in = at >= from && at < from + size;
                others.add(in ? part.replace(at - from, other) : part);
                from += size;
            }
            return with(others);
        }
    }

    static final class Rule {
        Term left;
        Term right;
        int arrow;
    }

    static final class Node {
        int parent = NONE, place = NONE, rule = NONE, depth, answer = NONE;
        Term left, right;
        List<Term> values = new ArrayList<>();
    }

    static final class Answer {
        int node;
        List<Term> values = new ArrayList<>();
    }

    static final class Pair {
        int i, p, j, joins;
        Term left, right;
    }

    static final class Token {
        String kind;
        String text;
        int start;
    }

    static final class Fault extends RuntimeException {
        final int kind, place;

        Fault(int kind, int place) {
            super(null, null, false, false);
            this.kind = kind;
            this.place = place;
        }
    }

    static final class Tired extends RuntimeException {
        final int kind;

        Tired(int kind) {
            super(null, null, false, false);
            this.kind = kind;
        }
    }

    private final StringBuilder tape = new StringBuilder();
    private int faultKind = NONE, faultPlace = NONE;
    private boolean ruled;
    private List<String> symbols = new ArrayList<>();
    private List<Integer> arities = new ArrayList<>();
    private List<Integer> symbolPlaces = new ArrayList<>();
    private List<Rule> rules = new ArrayList<>();
    private final List<Pair> pairs = new ArrayList<>();
    private int pairsInAll;
    private String out = "";
    private int steps;

    private boolean standing, full, allMarked;
    private Term goalLeft, goalRight;
    private List<String> goalNames = new ArrayList<>();
    private List<Node> nodes = new ArrayList<>();
    private List<Answer> answers = new ArrayList<>();
    private int expanded, lost;
    private int fresh;

    // ---- the tape and its TOKENS

    int feed(int a, int b, int c, int d, int e) {
        if (tape.length() + 20 > 1600) return NONE;
        for (int v : new int[] {a, b, c, d, e}) {
            tape.append((char) (v >>> 24 & 255)).append((char) (v >>> 16 & 255));
            tape.append((char) (v >>> 8 & 255)).append((char) (v & 255));
        }
        return tape.length();
    }

    private List<Token> tokens;
    private int at;

    private void tokenize(String text) {
        tokens = new ArrayList<>();
        at = 0;
        int i = 0;
        while (i < text.length()) {
            char c = text.charAt(i);
            if (c == 10 || c == 32) {
                i++;
                continue;
            }
            Token token = new Token();
            token.start = i;
            String rest = text.substring(i);
            String word = rest.replaceAll("(?s)[^A-Za-z0-9].*", "");
            if (!word.isEmpty() && !Character.isDigit(c)) {
                token.text = word;
                token.kind = word.length() > 8 ? "bad" : word.equals("sym") || word.equals("rule") ? word
                    : c <= 'Z' ? "variable" : "name";
            } else if (rest.startsWith("->")) {
                token.text = token.kind = "->";
            } else if (c >= '0' && c <= '9') {
                token.kind = "number";
                token.text = "" + c;
            } else {
                token.text = "" + c;
                token.kind = "(),;=".indexOf(c) >= 0 ? token.text : "bad";
            }
            i += token.text.length();
            tokens.add(token);
        }
        Token end = new Token();
        end.kind = "end";
        end.start = text.length();
        tokens.add(end);
    }

    private Token here() {
        return tokens.get(at);
    }

    private boolean is(String kind) {
        return here().kind.equals(kind);
    }

    private Token want(String... kinds) {
        Token token = here();
        if (token.kind.equals("bad")) throw new Fault(1, token.start);
        for (String kind : kinds) {
            if (token.kind.equals(kind)) {
                at++;
                return token;
            }
        }
        throw new Fault(2, token.start);
    }

    // ---- texts

    private int sizeRead;

    private Term readTerm(LinkedHashSet<String> names, int most) {
        sizeRead = 0;
        return readPart(names, most);
    }

    private Term readPart(LinkedHashSet<String> names, int most) {
        Token token = want("name", "variable");
        boolean variable = token.kind.equals("variable");
        if (variable) names.add(token.text);
        if (++sizeRead > 40 || names.size() > most) throw new Fault(3, token.start);
        List<Term> parts = new ArrayList<>();
        if (!variable && is("(")) {
            do {
                at++;
                parts.add(readPart(names, most));
            } while (is(","));
            want(")");
        }
        return new Term(token.text, variable, false, parts, token.start);
    }

    private void readSystem(List<String> told, List<Integer> numbers, List<Integer> placed, List<Rule> read) {
        want("sym");
        while (true) {
            Token name = want("name");
            if (told.size() == 16) throw new Fault(3, name.start);
            Token number = want("number");
            if (number.text.compareTo("4") > 0) throw new Fault(2, number.start);
            told.add(name.text);
            placed.add(name.start);
            numbers.add(Integer.parseInt(number.text));
            if (!is(",")) break;
            at++;
        }
        want(";");
        while (!is("end")) {
            Token rule = want("rule");
            if (read.size() == 16) throw new Fault(3, rule.start);
            LinkedHashSet<String> names = new LinkedHashSet<>();
            Rule made = new Rule();
            made.left = readTerm(names, 8);
            made.arrow = want("->").start;
            made.right = readTerm(names, 8);
            want(";");
            read.add(made);
        }
    }

    private void checkNames(Term term) {
        for (Term part : term.places()) {
            if (part.variable) continue;
            int s = symbols.indexOf(part.head);
            if (s < 0) throw new Fault(5, part.place);
            if (arities.get(s) != part.parts.size()) throw new Fault(6, part.place);
        }
    }

    private void checkRule(Rule rule) {
        checkNames(rule.left);
        checkNames(rule.right);
        if (rule.left.variable) throw new Fault(7, rule.left.place);
        for (Term part : rule.right.places()) {
            if (part.variable && !rule.left.holds(part.head)) throw new Fault(7, part.place);
        }
        if (!above(rule.left, rule.right)) throw new Fault(7, rule.arrow);
    }

    private boolean above(Term s, Term t) {
        if (s.variable) return false;
        if (t.variable) return s.holds(t.head);
        for (Term part : s.parts) if (part.same(t) || above(part, t)) return true;
        int a = symbols.indexOf(s.head), b = symbols.indexOf(t.head);
        if (a < b) return false;
        for (Term part : t.parts) if (!above(s, part)) return false;
        if (a > b) return true;
        for (int k = 0; k < s.parts.size(); k++) {
            if (!s.parts.get(k).same(t.parts.get(k))) return above(s.parts.get(k), t.parts.get(k));
        }
        return false;
    }

    private String take(int n) {
        String text = tape.substring(0, n);
        tape.setLength(0);
        faultKind = 0;
        faultPlace = NONE;
        return text;
    }

    int system(int n) {
        if (n < 0 || n > tape.length()) return NONE;
        tokenize(take(n));
        List<String> oldSymbols = symbols;
        List<Integer> oldArities = arities, oldPlaces = symbolPlaces;
        List<Rule> oldRules = rules;
        symbols = new ArrayList<>();
        arities = new ArrayList<>();
        symbolPlaces = new ArrayList<>();
        rules = new ArrayList<>();
        try {
            readSystem(symbols, arities, symbolPlaces, rules);
            for (int s = 0; s < symbols.size(); s++) {
                if (symbols.indexOf(symbols.get(s)) < s) throw new Fault(4, symbolPlaces.get(s));
            }
            for (Rule rule : rules) checkRule(rule);
        } catch (Fault f) {
            symbols = oldSymbols;
            arities = oldArities;
            symbolPlaces = oldPlaces;
            rules = oldRules;
            faultKind = f.kind;
            faultPlace = f.place;
            return f.kind;
        }
        ruled = true;
        standing = false;
        findPairs();
        return 0;
    }

    int fault(int what) {
        return what == 0 ? faultKind : what == 1 ? faultPlace : NONE;
    }

    // ---- STEPS

    private static Map<String, Term> match(Term pattern, Term term, Map<String, Term> found) {
        if (pattern.variable) {
            Term old = found.get(pattern.head);
            if (old != null && !old.same(term)) return null;
            found.put(pattern.head, term);
            return found;
        }
        if (term.variable || !pattern.head.equals(term.head)) return null;
        for (int k = 0; k < pattern.parts.size(); k++) {
            if (match(pattern.parts.get(k), term.parts.get(k), found) == null) return null;
        }
        return found;
    }

    private static Term fill(Term pattern, Map<String, Term> found) {
        if (pattern.variable) return found.containsKey(pattern.head) ? found.get(pattern.head) : pattern;
        List<Term> parts = new ArrayList<>();
        for (Term part : pattern.parts) parts.add(fill(part, found));
        return pattern.with(parts);
    }

    /** The TERM after one STEP at the first place that has one, ARGUMENTS looked at ahead; null if there is none. */
    private Term oneStep(Term term) {
        for (int k = 0; k < term.parts.size(); k++) {
            Term changed = oneStep(term.parts.get(k));
            if (changed != null) {
                List<Term> parts = new ArrayList<>(term.parts);
                parts.set(k, changed);
                return term.with(parts);
            }
        }
        if (term.variable) return null;
        for (Rule rule : rules) {
            Map<String, Term> found = match(rule.left, term, new HashMap<>());
            if (found != null) return fill(rule.right, found);
        }
        return null;
    }

    private Term form(Term term) {
        if (term.size() > 200) throw new Tired(-2);
        steps = 0;
        Term now = term;
        while (true) {
            Term then = oneStep(now);
            if (then == null) return now;
            if (++steps == 1001) throw new Tired(-3);
            if (then.size() > 200) throw new Tired(-2);
            now = then;
        }
    }

    private int joins(Term a, Term b) {
        try {
            return form(a).same(form(b)) ? 1 : 0;
        } catch (Tired t) {
            return 2;
        }
    }

    // ---- what makes TERMS the same

    /** All VARIABLES that become something, wholly put in; null if the TERMS do not UNIFY. */
    private static Map<String, Term> unifier(Term a, Term b) {
        Map<String, Term> made = new HashMap<>();
        List<Term[]> todo = new ArrayList<>();
        todo.add(new Term[] {a, b});
        while (!todo.isEmpty()) {
            Term[] two = todo.remove(0);
            Term x = fill(two[0], made), y = fill(two[1], made);
            if (x.same(y)) continue;
            if (!x.variable && y.variable) {
                Term z = x;
                x = y;
                y = z;
            }
            if (x.variable) {
                if (y.holds(x.head)) return null;
                for (Map.Entry<String, Term> entry : made.entrySet()) entry.setValue(entry.getValue().put(x.head, y));
                made.put(x.head, y);
                continue;
            }
            if (!x.head.equals(y.head)) return null;
            for (int k = 0; k < x.parts.size(); k++) todo.add(new Term[] {x.parts.get(k), y.parts.get(k)});
        }
        return made;
    }

    private Map<String, Term> marking(Map<String, Term> made, boolean mark) {
        Map<String, Term> marked = new HashMap<>();
        for (Map.Entry<String, Term> entry : made.entrySet()) marked.put(entry.getKey(), entry.getValue().marking(mark));
        return marked;
    }

    private void findPairs() {
        pairs.clear();
        pairsInAll = 0;
        for (int i = 0; i < rules.size(); i++) {
            List<Term> places = rules.get(i).left.places();
            for (int p = 0; p < places.size(); p++) {
                for (int j = 0; j < rules.size(); j++) {
                    if (places.get(p).variable || i == j && p == 0) continue;
                    Term left = rules.get(j).left.rename("'"), right = rules.get(j).right.rename("'");
                    Map<String, Term> made = unifier(left, places.get(p));
                    if (made == null) continue;
                    pairsInAll++;
                    if (pairs.size() == 200) continue;
                    Pair pair = new Pair();
                    pair.i = i;
                    pair.p = p;
                    pair.j = j;
                    pair.left = fill(rules.get(i).right, made);
                    pair.right = fill(rules.get(i).left.replace(p, right), made);
                    pair.joins = joins(pair.left, pair.right);
                    pairs.add(pair);
                }
            }
        }
    }

    int count(int what) {
        switch (what) {
            case 0: return symbols.size();
            case 1: return rules.size();
            case 2: return pairsInAll;
            case 3: return (int) pairs.stream().filter(p -> p.joins == 1).count();
            case 4: return (int) pairs.stream().filter(p -> p.joins == 2).count();
            case 5: return Math.min(1000, out.length());
            default: return NONE;
        }
    }

    int pair(int k, int what) {
        if (k < 0 || k >= pairs.size()) return NONE;
        Pair pair = pairs.get(k);
        return what == 0 ? pair.i : what == 1 ? pair.p : what == 2 ? pair.j : what == 3 ? pair.joins : NONE;
    }

    // ---- what is SHOWN

    private static void show(Term term, Map<String, String> names, StringBuilder to) {
        if (term.variable) {
            if (!names.containsKey(term.head)) {
                int k = 1;
                while (names.containsValue("_" + k)) k++;
                names.put(term.head, "_" + k);
            }
            to.append(names.get(term.head));
            return;
        }
        to.append(term.head);
        for (int k = 0; k < term.parts.size(); k++) {
            to.append(k == 0 ? "(" : ",");
            show(term.parts.get(k), names, to);
        }
        if (!term.parts.isEmpty()) to.append(")");
    }

    private Map<String, String> ownNames(Term... terms) {
        Map<String, String> names = new HashMap<>();
        for (Term term : terms) for (Term part : term.places()) if (part.variable) names.put(part.head, part.head);
        return names;
    }

    private static Map<String, String> goalNames(List<String> told, List<Term> values) {
        Map<String, String> names = new HashMap<>();
        for (int v = 0; v < told.size(); v++) {
            if (values.get(v).variable) names.putIfAbsent(values.get(v).head, told.get(v));
        }
        return names;
    }

    private static String showTwo(Term a, String sign, Term b, Map<String, String> names) {
        StringBuilder to = new StringBuilder();
        show(a, names, to);
        to.append(sign);
        show(b, names, to);
        return to.toString();
    }

    private static String showValues(List<String> told, List<Term> values) {
        Map<String, String> names = goalNames(told, values);
        StringBuilder to = new StringBuilder();
        for (int v = 0; v < told.size(); v++) {
            to.append(v == 0 ? "" : ",").append(told.get(v)).append("=");
            show(values.get(v), names, to);
        }
        return to.toString();
    }

    private int shown(String text) {
        out = text;
        return text.length();
    }

    int show(int what, int k) {
        if (k < 0) return NONE;
        if (what == 0 && k < rules.size()) {
            Rule rule = rules.get(k);
            return shown(showTwo(rule.left, "->", rule.right, ownNames(rule.left)));
        }
        if (what == 1 && k < pairs.size()) {
            Pair pair = pairs.get(k);
            if (pair.left.size() > 200 || pair.right.size() > 200) return NONE;
            return shown(showTwo(pair.left, "=", pair.right, new HashMap<>()));
        }
        if (!standing) return NONE;
        if (what == 2 && k < nodes.size()) {
            Node node = nodes.get(k);
            return shown(showTwo(node.left, "=", node.right, goalNames(goalNames, node.values)));
        }
        if (what == 3 && k < nodes.size()) return shown(showValues(goalNames, nodes.get(k).values));
        if (what == 4 && k < answers.size()) return shown(showValues(goalNames, answers.get(k).values));
        return NONE;
    }

    int out(int i) {
        return i >= 0 && i < out.length() && i < 1000 ? out.charAt(i) : NONE;
    }

    // ---- TERMS and GOALS

    private boolean refused(int n) {
        return !ruled || n < 0 || n > tape.length();
    }

    int normal(int n) {
        if (refused(n)) return NONE;
        tokenize(take(n));
        try {
            Term term = readTerm(new LinkedHashSet<>(), 6);
            want("end");
            checkNames(term);
            StringBuilder to = new StringBuilder();
            show(form(term), ownNames(term), to);
            out = to.toString();
            return steps;
        } catch (Fault f) {
            faultKind = f.kind;
            faultPlace = f.place;
            return -4;
        } catch (Tired t) {
            return t.kind;
        }
    }

    private Term readLeft, readRight;
    private List<String> readNames;

    private boolean readGoal(String text) {
        tokenize(text);
        try {
            LinkedHashSet<String> names = new LinkedHashSet<>();
            readLeft = readTerm(names, 6);
            want("=");
            readRight = readTerm(names, 6);
            want("end");
            checkNames(readLeft);
            checkNames(readRight);
            readNames = new ArrayList<>(names);
            return true;
        } catch (Fault f) {
            faultKind = f.kind;
            faultPlace = f.place;
            return false;
        }
    }

    int unify(int n) {
        if (refused(n)) return NONE;
        if (!readGoal(take(n))) return -4;
        Map<String, Term> made = unifier(readLeft, readRight);
        if (made == null) return 0;
        List<Term> values = new ArrayList<>();
        for (String name : readNames) values.add(fill(Term.variable(name), made));
        for (Term value : values) if (value.size() > 100) return 2;
        out = showValues(readNames, values);
        return 1;
    }

    // ---- the TREE

    int goal(int n, boolean full) {
        if (refused(n)) return NONE;
        if (!readGoal(take(n))) return faultKind;
        standing = true;
        this.full = false;
        allMarked = full;
        goalLeft = readLeft;
        goalRight = readRight;
        goalNames = readNames;
        nodes = new ArrayList<>();
        answers = new ArrayList<>();
        expanded = 0;
        lost = 0;
        fresh = 0;
        Node root = new Node();
        root.left = goalLeft.marking(true);
        root.right = goalRight.marking(true);
        for (String name : goalNames) root.values.add(Term.variable(name));
        make(root);
        return 0;
    }

    private static long sizes(List<Term> terms) {
        long sum = 0;
        for (Term term : terms) sum += term.size();
        return sum;
    }

    private static boolean tooGreat(List<Term> terms) {
        for (Term term : terms) if (term.size() > 100) return true;
        return false;
    }

    private long cells() {
        long sum = 0;
        for (Node node : nodes) sum += 4 + node.left.size() + node.right.size() + sizes(node.values);
        for (Answer answer : answers) sum += 2 + sizes(answer.values);
        return sum;
    }

    private void make(Node node) {
        List<Term> all = new ArrayList<>(node.values);
        all.add(node.left);
        all.add(node.right);
        if (tooGreat(all)) {
            lost++;
            return;
        }
        if (nodes.size() == 1000 || cells() + 4 + sizes(all) > 30000) {
            full = true;
            return;
        }
        nodes.add(node);
        Map<String, Term> made = unifier(node.left, node.right);
        if (made == null) return;
        Answer answer = new Answer();
        answer.node = nodes.size() - 1;
        for (Term value : node.values) answer.values.add(fill(value, made));
        if (tooGreat(answer.values)) {
            lost++;
            return;
        }
        if (answers.size() == 300 || cells() + 2 + sizes(answer.values) > 30000) {
            full = true;
            return;
        }
        node.answer = answers.size();
        answers.add(answer);
    }

    private void grow(int i) {
        Node node = nodes.get(i);
        List<Term> places = node.left.places();
        int middle = places.size();
        places.addAll(node.right.places());
        for (int p = 0; p < places.size(); p++) {
            if (places.get(p).variable || !places.get(p).marked) continue;
            for (int r = 0; r < rules.size() && !full; r++) {
                String suffix = "'" + fresh++;
                Term left = rules.get(r).left.rename(suffix), right = rules.get(r).right.rename(suffix).marking(true);
                Map<String, Term> made = unifier(places.get(p), left);
                if (made == null) continue;
                made = marking(made, allMarked);
                Node child = new Node();
                child.parent = i;
                child.place = p;
                child.rule = r;
                child.depth = node.depth + 1;
                child.left = fill(p < middle ? node.left.replace(p, right) : node.left, made);
                child.right = fill(p < middle ? node.right : node.right.replace(p - middle, right), made);
                if (allMarked) {
                    child.left = child.left.marking(true);
                    child.right = child.right.marking(true);
                }
                for (Term value : node.values) child.values.add(fill(value, made));
                make(child);
            }
        }
    }

    int expand(int n) {
        if (n < 1 || n > 100 || !standing) return NONE;
        int done = 0;
        while (done < n && !full && expanded < nodes.size()) {
            grow(expanded);
            if (full) break;
            expanded++;
            done++;
        }
        return done;
    }

    int tree(int what) {
        if (what < 0 || what > 6) return NONE;
        if (!standing) return 0;
        switch (what) {
            case 0: return full ? 3 : expanded < nodes.size() ? 1 : 2;
            case 1: return nodes.size();
            case 2: return expanded;
            case 3: return answers.size();
            case 4: return lost;
            case 5: return (int) cells();
            default: return goalNames.size();
        }
    }

    int node(int i, int what) {
        if (!standing || i < 0 || i >= nodes.size()) return NONE;
        Node node = nodes.get(i);
        switch (what) {
            case 0: return node.parent;
            case 1: return node.place;
            case 2: return node.rule;
            case 3: return node.depth;
            case 4: return (int) node.left.size();
            case 5: return (int) node.right.size();
            case 6: return (int) (node.left.places().stream().filter(t -> !t.variable && t.marked).count()
                + node.right.places().stream().filter(t -> !t.variable && t.marked).count());
            case 7: return node.answer;
            default: return NONE;
        }
    }

    int answer(int k, int what) {
        if (!standing || k < 0 || k >= answers.size()) return NONE;
        if (what == 0) return answers.get(k).node;
        if (what != 1) return NONE;
        Map<String, Term> values = new HashMap<>();
        for (int v = 0; v < goalNames.size(); v++) values.put(goalNames.get(v), answers.get(k).values.get(v));
        return joins(fill(goalLeft, values), fill(goalRight, values));
    }

    boolean covers(int a, int b) {
        if (!standing || a < 0 || b < 0 || a >= answers.size() || b >= answers.size()) return false;
        Term one = new Term("all", false, false, answers.get(a).values, NONE);
        Term two = new Term("all", false, false, answers.get(b).values, NONE);
        return match(one, two, new HashMap<>()) != null;
    }
}
