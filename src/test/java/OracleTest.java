import java.util.ArrayList;
import java.util.List;

/** Asks the program and the plain retelling of the document the same, over many texts, and wants the same answers. */
final class OracleTest {
    private static final String[] SYSTEMS = {
        "sym z 0, s 1, plus 2; rule plus(z,Y)->Y; rule plus(s(X),Y)->s(plus(X,Y));",
        "sym z 0, s 1, p 2, t 2; rule p(z,Y)->Y; rule p(s(X),Y)->s(p(X,Y)); rule t(z,Y)->z; rule t(s(X),Y)->p(Y,t(X,Y));",
        "sym e 0, m 2, i 1; rule m(e,X)->X; rule m(i(X),X)->e; rule m(m(X,Y),Z)->m(X,m(Y,Z)); rule m(i(X),m(X,Y))->Y; "
            + "rule i(e)->e; rule i(i(X))->X; rule m(X,e)->X; rule m(X,i(X))->e; rule m(X,m(i(X),Y))->Y; rule i(m(X,Y))->m(i(Y),i(X));",
        "sym e 0, m 2, i 1; rule m(e,X)->X; rule m(i(X),X)->e; rule m(m(X,Y),Z)->m(X,m(Y,Z));",
        "sym a 0, b 0, f 1; rule f(a)->b; rule f(X)->a;",
        "sym a 0, f 1, g 2; rule f(f(X))->X; rule g(X,X)->a;",
        "sym n 0, a 0, b 0, c 2, app 2, rev 1; rule app(n,Y)->Y; rule app(c(X,Y),Z)->c(X,app(Y,Z)); "
            + "rule rev(n)->n; rule rev(c(X,Y))->app(rev(Y),c(X,n));",
        "sym f 0, t 0, or 2, and 2, not 1; rule not(t)->f; rule not(f)->t; rule and(t,X)->X; rule and(f,X)->f; rule or(t,X)->t; "
            + "rule or(f,X)->X; rule not(not(X))->X; rule and(X,X)->X; rule or(X,X)->X;",
        "sym a 0, c 2, d 1; rule d(X)->c(X,X);",
        "sym a 0, c 4, d 1; rule d(X)->c(X,X,X,X);",
        "sym z 0, s 1, k 1, h 1; rule k(z)->z; rule k(s(X))->h(h(h(X))); rule h(X)->s(X);",
        "sym b 0, a 0, f 1, g 1, h 2; rule h(X,f(X))->g(X); rule h(g(Y),Z)->f(Y); rule g(g(X))->f(X); rule f(f(f(X)))->X; rule a->b;",
        "sym s 1, z 0, ack 2; rule ack(z,Y)->s(Y); rule ack(s(X),z)->ack(X,s(z)); rule ack(s(X),s(Y))->ack(X,ack(s(X),Y));",
        "sym f 1, a 0, g 2; rule f(f(X))->X; rule g(X,f(X))->f(a);", "sym c 2, d 1, b 0; rule d(c(X,Y))->c(d(Y),d(X)); rule c(X,X)->X;",
        "sym a 0;", "sym x 0, f 3, k 2; rule f(X,Y,Z)->k(X,k(Y,Z)); rule k(x,X)->X;",
    };

    private final Check.Dice dice;
    private NarrowHouse house;
    private Oracle oracle;
    private String story;
    private int calls;
    private String[] names;
    private int[] arities;

    private OracleTest(int seed) {
        dice = new Check.Dice(seed);
    }

    private void same(String call, long got, long want) {
        calls++;
        Check.due(story + " :: " + call, got, want);
    }

    private void feed(String text) {
        for (int from = 0; from < text.length(); from += 20) {
            int[] w = new int[5];
            for (int k = 0; k < 5; k++) w[k] = Check.word(text, from + 4 * k);
            same("feed", house.feed(w[0], w[1], w[2], w[3], w[4]), oracle.feed(w[0], w[1], w[2], w[3], w[4]));
        }
    }

    private void sameOut() {
        int size = oracle.count(5);
        same("count(5)", house.count(5), size);
        for (int i = -1; i <= size; i++) Check.due(story + " :: out(" + i + ")", house.out(i), oracle.out(i));
    }

    private void sameFault() {
        for (int what = -1; what <= 2; what++) same("fault(" + what + ")", house.fault(what), oracle.fault(what));
    }

    // ---- texts

    private String term(int deep, int variables) {
        if (deep == 0 || dice.once(4)) {
            if (variables > 0 && !dice.once(3)) return variable(variables);
            for (int k = 0; k < 20; k++) {
                int s = dice.below(names.length);
                if (arities[s] == 0) return names[s];
            }
            return variable(Math.max(1, variables));
        }
        int s = dice.below(names.length);
        if (arities[s] == 0) return names[s];
        StringBuilder text = new StringBuilder(names[s]).append("(");
        for (int k = 0; k < arities[s]; k++) text.append(k == 0 ? "" : ",").append(term(deep - 1, variables));
        return text.append(")").toString();
    }

    private String variable(int variables) {
        return "" + (char) ('P' + dice.below(variables));
    }

    private void readSymbols(String system) {
        List<String> told = new ArrayList<>();
        for (String part : system.substring(3, system.indexOf(';')).split(",")) told.add(part.trim());
        names = new String[told.size()];
        arities = new int[told.size()];
        for (int k = 0; k < names.length; k++) {
            String[] two = told.get(k).split(" ");
            names[k] = two[0];
            arities[k] = Integer.parseInt(two[1]);
        }
    }

    private String randomSystem() {
        String[] all = {"a", "b", "c", "f", "g", "h", "k"};
        int[] most = {0, 0, 0, 1, 2, 3, 2};
        int count = 3 + dice.below(5);
        StringBuilder text = new StringBuilder("sym ");
        for (int k = 0; k < count; k++) {
            text.append(k == 0 ? "" : ", ").append(all[k]).append(" ").append(most[k]);
        }
        text.append(";");
        readSymbols(text.toString());
        int rules = dice.below(6);
        for (int tries = 0; tries < 200 && rules > 0; tries++) {
            String rule = "rule " + term(1 + dice.below(3), 3) + "->" + term(dice.below(3), 3) + ";";
            NarrowHouse trial = new NarrowHouse();
            if (text.length() + rule.length() > 1600 || Check.system(trial, text + rule) != 0) continue;
            text.append(rule);
            rules--;
        }
        return text.toString();
    }

    private String spoilt(String text) {
        StringBuilder changed = new StringBuilder(text);
        for (int k = dice.below(3); k >= 0 && changed.length() > 0; k--) {
            int at = dice.below(changed.length());
            String signs = "(),;=->. \nXYZabfgsz0123456789@symrule";
            switch (dice.below(5)) {
                case 0: changed.deleteCharAt(at); break;
                case 1: changed.insert(at, signs.charAt(dice.below(signs.length()))); break;
                case 2: changed.setCharAt(at, signs.charAt(dice.below(signs.length()))); break;
                case 3: changed.insert(at, changed.substring(at, Math.min(changed.length(), at + dice.below(9)))); break;
                default: changed.setLength(at);
            }
        }
        return changed.length() > 1600 ? changed.substring(0, 1600) : changed.toString();
    }

    // ---- runs

    private void start(String system) {
        story = system;
        house = new NarrowHouse();
        oracle = new Oracle();
        readSymbols(system);
        feed(system);
        same("system", house.system(system.length()), oracle.system(system.length()));
        sameFault();
        samePairs();
    }

    private void samePairs() {
        for (int what = -1; what <= 6; what++) same("count(" + what + ")", house.count(what), oracle.count(what));
        int kept = Math.min(200, oracle.count(2));
        for (int k = -1; k <= kept; k++) {
            if (kept > 12 && k > 2 && k < kept - 2 && !dice.once(8)) continue;
            for (int what = -1; what <= 4; what++) same("pair(" + k + "," + what + ")", house.pair(k, what), oracle.pair(k, what));
            same("show(1," + k + ")", house.show(1, k), oracle.show(1, k));
            sameOut();
        }
        for (int k = -1; k <= oracle.count(1); k++) {
            same("show(0," + k + ")", house.show(0, k), oracle.show(0, k));
            sameOut();
        }
    }

    private void normal(String text) {
        story += " | normal " + text;
        feed(text);
        int n = Math.min(1600, text.length());
        same("normal", house.normal(n), oracle.normal(n));
        sameFault();
        sameOut();
    }

    private void unify(String text) {
        story += " | unify " + text;
        feed(text);
        int n = Math.min(1600, text.length());
        same("unify", house.unify(n), oracle.unify(n));
        sameFault();
        sameOut();
    }

    private void spoiltSystem(String text) {
        story += " | system " + text;
        feed(text);
        int n = Math.min(1600, text.length());
        same("system", house.system(n), oracle.system(n));
        sameFault();
    }

    private void goal(String text, boolean full, int most) {
        story += " | goal " + text + " " + full;
        feed(text);
        int n = Math.min(1600, text.length());
        same("goal", house.goal(n, full), oracle.goal(n, full));
        sameFault();
        for (int k = 0; k < most && oracle.tree(0) == 1; k++) {
            int by = 1 + dice.below(9);
            same("expand(" + by + ")", house.expand(by), oracle.expand(by));
            for (int what = -1; what <= 7; what++) same("tree(" + what + ")", house.tree(what), oracle.tree(what));
            if (oracle.tree(1) > 250) break;
        }
        sameTree();
    }

    private void sameTree() {
        for (int what = -1; what <= 7; what++) same("tree(" + what + ")", house.tree(what), oracle.tree(what));
        int nodes = oracle.tree(1), answers = oracle.tree(3);
        for (int i = -1; i <= nodes; i++) {
            if (nodes > 20 && i > 3 && i < nodes - 1 && !dice.once(10)) continue;
            for (int what = -1; what <= 8; what++) same("node(" + i + "," + what + ")", house.node(i, what), oracle.node(i, what));
            for (int what = 2; what <= 3; what++) {
                same("show(" + what + "," + i + ")", house.show(what, i), oracle.show(what, i));
                sameOut();
            }
        }
        for (int k = -1; k <= answers; k++) {
            if (answers > 10 && k > 2 && k < answers - 1 && !dice.once(6)) continue;
            for (int what = -1; what <= 2; what++) same("answer(" + k + "," + what + ")", house.answer(k, what), oracle.answer(k, what));
            same("show(4," + k + ")", house.show(4, k), oracle.show(4, k));
            sameOut();
            for (int b = -1; b <= answers; b++) {
                if (answers > 10 && !dice.once(6)) continue;
                same("covers(" + k + "," + b + ")", house.covers(k, b) ? 1 : 0, oracle.covers(k, b) ? 1 : 0);
                same("covers(" + b + "," + k + ")", house.covers(b, k) ? 1 : 0, oracle.covers(b, k) ? 1 : 0);
            }
        }
    }

    /** RULES of any two TERMS, most of which are none. */
    private void anyRules() {
        String symbols = "sym f 1, a 0, k 3, g 2, b 0, h 1; ";
        readSymbols(symbols);
        house = new NarrowHouse();
        oracle = new Oracle();
        story = "any rules";
        for (int k = 0; k < 30; k++) {
            String left = term(1 + dice.below(4), 3), right = dice.once(3) ? changed(left) : term(dice.below(4), 3);
            String text = symbols + "rule " + left + "->" + right + ";";
            story = text;
            feed(text);
            same("system", house.system(text.length()), oracle.system(text.length()));
            sameFault();
        }
    }

    /** The TERM with some SYMBOLS of one kind put for others. */
    private String changed(String term) {
        StringBuilder text = new StringBuilder(term);
        for (int k = 0; k < text.length(); k++) {
            char c = text.charAt(k);
            if (!dice.once(3)) continue;
            if (c == 'f' || c == 'h') text.setCharAt(k, dice.once(2) ? 'f' : 'h');
            if (c == 'a' || c == 'b') text.setCharAt(k, dice.once(2) ? 'a' : 'b');
            if (c >= 'P' && c <= 'R') text.setCharAt(k, (char) ('P' + dice.below(3)));
        }
        return text.toString();
    }

    private void oneRun(int number) {
        String system = number % 3 != 0 ? SYSTEMS[dice.below(SYSTEMS.length)] : randomSystem();
        start(system);
        for (int k = 0; k < 4; k++) normal(term(5, dice.below(3)));
        for (int k = 0; k < 4; k++) unify(term(4, 1 + dice.below(6)) + "=" + term(4, 1 + dice.below(6)));
        for (int k = 0; k < 3; k++) {
            goal(term(1 + dice.below(3), 1 + dice.below(4)) + "=" + term(dice.below(4), 1 + dice.below(4)), dice.once(2), 12);
        }
        for (int k = 0; k < 3; k++) normal(spoilt(term(3, 2)));
        for (int k = 0; k < 3; k++) unify(spoilt(term(3, 2) + " = " + term(3, 2)));
        for (int k = 0; k < 2; k++) goal(spoilt(term(1, 2) + " = " + term(1, 2)), false, 1);
        for (int k = 0; k < 6; k++) spoiltSystem(spoilt(system));
        anyRules();
    }

    public static void main(String[] args) {
        int runs = Integer.getInteger("runs", 150);
        int first = Integer.getInteger("first", 1);
        long calls = 0;
        for (int k = first; k < first + runs; k++) {
            OracleTest test = new OracleTest(k);
            test.oneRun(k);
            calls += test.calls;
        }
        System.out.println(runs + " runs, " + calls + " calls");
        Check.end();
    }
}
