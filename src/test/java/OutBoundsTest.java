/** The bounds of what is SHOWN, promises 15 and 16, and the bytes of OUT that count() tells. */
final class OutBoundsTest {
    private static final int NONE = NarrowHouse.NONE;
    private static final String S = "s2345678";

    public static void main(String[] args) {
        formOfAThousandBytes();
        pairOfAThousandBytes();
        equationOfAThousandBytes();
        valuesOfAThousandBytes();
        answerOfAThousandBytes();
        unifiedOfAThousandBytes();
        greatestOfAll();
        emptyOnes();
        shorterBehindLonger();
        bytesOfAny();
        showOfAny();
        firstOfThoseThatAreOne();
        eightVariablesOfARule();
        namesOfAnEarlierGoal();
        moreThanAHundredVariables();
        sixteenSymbolsAndMoreVariables();
        Check.end();
    }

    private static String tower(String sign, int count, String end) {
        StringBuilder text = new StringBuilder();
        for (int k = 0; k < count; k++) text.append(sign).append("(");
        text.append(end);
        for (int k = 0; k < count; k++) text.append(")");
        return text.toString();
    }

    /** OUT holds the first thousand bytes of what is due, and no more. */
    private static void holds(NarrowHouse x, String due) {
        int kept = Math.min(1000, due.length());
        Check.due("count(5)", x.count(5), kept);
        for (int i = 0; i < kept; i++) Check.due("out(" + i + ") of " + due.length(), x.out(i), due.charAt(i));
        for (int i = kept; i < kept + 3; i++) Check.due("out(" + i + ") of " + due.length(), x.out(i), NONE);
        Check.due("out(999)", x.out(999), due.length() >= 1000 ? due.charAt(999) : NONE);
        Check.due("out(1000)", x.out(1000), NONE);
        Check.due("out(1001)", x.out(1001), NONE);
        Check.due("out(-1)", x.out(-1), NONE);
    }

    private static void shows(NarrowHouse x, int what, int k, String due, int length) {
        Check.due("what is due has so many bytes", due.length(), length);
        Check.due("show(" + what + "," + k + ") of " + length, x.show(what, k), length);
        holds(x, due);
    }

    private static String leaf(int signs) {
        return "abcdefgh".substring(0, signs);
    }

    /** u makes 39 s; 99 of them have ten bytes each. */
    private static void formOfAThousandBytes() {
        for (int length = 999; length <= 1001; length++) {
            String end = leaf(length - 993);
            NarrowHouse x = Check.house("sym " + end + " 0, " + S + " 1, u 1, p 1; rule u(X)->" + tower(S, 39, "X") + ";");
            String due = "p(" + tower(S, 99, end) + ")";
            Check.due("bytes", due.length(), length);
            Check.due("normal", Check.normal(x, "p(u(u(" + tower(S, 21, end) + ")))"), 2);
            holds(x, due);
        }
    }

    /** Four times s twenty-four times, and a name of so many signs at the other side. */
    private static void pairOfAThousandBytes() {
        for (int length = 999; length <= 1001; length++) {
            String other = leaf(length - 995);
            String inner = tower(S, 24, "eeeeeee");
            NarrowHouse x = Check.house("sym " + other + " 0, eeeeeee 0, " + S + " 1, c 4, w 1; rule w(X)->c(X,X,X,X); rule w(" + inner + ")->"
                + other + ";");
            String great = "c(X,X,X,X)".replace("X", inner);
            shows(x, 1, 0, great + "=" + other, length);
            shows(x, 1, 1, other + "=" + great, length);
            Check.due("a RULE is never so long", x.show(0, 0), 16);
        }
    }

    /** NODE 3 has 99 s, a name of seven signs, and a VARIABLE. */
    private static void equationOfAThousandBytes() {
        for (int length = 999; length <= 1001; length++) {
            String variable = "Xyz".substring(0, length - 998);
            NarrowHouse x = Check.house("sym eeeeeee 0, " + S + " 1, u 1; rule u(X)->" + tower(S, 39, "X") + ";");
            Check.due("goal", Check.goal(x, "u(u(" + tower(S, 21, "eeeeeee") + "))=" + variable, true), 0);
            Check.due("expand(9)", x.expand(9), 5);
            shows(x, 2, 3, tower(S, 99, "eeeeeee") + "=" + variable, length);
        }
    }

    /** w takes 33 s of a VARIABLE. */
    private static void valuesOfAThousandBytes() {
        for (int length = 999; length <= 1001; length++) {
            String name = "Xyzabcde".substring(0, length - 993);
            NarrowHouse x = Check.house("sym a 0, " + S + " 1, w 1; rule w(" + tower(S, 33, "X") + ")->w(X);");
            Check.due("goal", Check.goal(x, "w(" + name + ")=a", false), 0);
            Check.due("expand(3)", x.expand(3), 3);
            shows(x, 3, 3, name + "=" + tower(S, 99, "_1"), length);
        }
    }

    private static void answerOfAThousandBytes() {
        for (int length = 999; length <= 1001; length++) {
            String name = "Xyzabcde".substring(0, length - 996);
            NarrowHouse x = Check.house("sym a 0, " + S + " 1, w 1; rule w(" + tower(S, 33, "X") + ")->w(X);");
            Check.due("goal", Check.goal(x, "w(" + name + ")=w(B)", false), 0);
            Check.due("expand(4)", x.expand(4), 4);
            Check.due("NODE 7 came of 3", x.node(7, 0), 3);
            Check.due("NODE 3 came of 1", x.node(3, 0), 1);
            shows(x, 4, x.node(7, 7), name + "=" + tower(S, 99, "B") + ",B=B", length);
        }
    }

    private static void unifiedOfAThousandBytes() {
        for (int length = 999; length <= 1001; length++) {
            String name = "Xyzabcde".substring(0, length - 995);
            String inner = tower(S, 19, "eeeeeee");
            NarrowHouse x = Check.house("sym eeeeeee 0, " + S + " 1, c 4, k 2;");
            Check.due("unify", Check.unify(x, "k(" + name + ",Y)=k(c(Y,Y,Y,Y)," + inner + ")"), 1);
            String due = name + "=" + "c(X,X,X,X)".replace("X", inner) + ",Y=" + inner;
            Check.due("bytes", due.length(), length);
            holds(x, due);
        }
    }

    /** Far more than a thousand bytes: all are counted where show() tells how many. */
    private static void greatestOfAll() {
        NarrowHouse x = Check.house("sym a 0, " + S + " 1, c2345678 4, p 2;");
        String inner = tower(S, 20, "a");
        String four = "c2345678(F,F,F,F)";
        String goal = "p(F,p(A,p(B,C)))=p(" + inner + ",p(" + four + ",p(A,A)))";
        Check.due("unify", Check.unify(x, goal), 1);
        String great = four.replace("F", inner);
        String due = "F=" + inner + ",A=" + great + ",B=" + great + ",C=" + great;
        Check.due("more than a thousand", due.length() > 2500, true);
        holds(x, due);
        Check.due("goal", Check.goal(x, goal, true), 0);
        shows(x, 4, 0, due, due.length());
        shows(x, 2, 0, goal, goal.length());
        String rule = tower(S, 39, "Abcdefgh") + "->" + tower(S, 38, "Abcdefgh");
        NarrowHouse y = Check.house("sym " + S + " 1; rule " + rule + ";");
        shows(y, 0, 0, rule, 2 * 398 - 10 + 2);
    }

    private static void emptyOnes() {
        NarrowHouse x = Check.house("sym a 0, f 1; rule f(f(X))->X;");
        holds(x, "");
        Check.due("normal", Check.normal(x, "a"), 0);
        holds(x, "a");
        Check.due("unify without VARIABLES", Check.unify(x, "a=a"), 1);
        holds(x, "");
        Check.due("goal", Check.goal(x, "a=a", false), 0);
        Check.due("normal", Check.normal(x, "f(a)"), 0);
        shows(x, 3, 0, "", 0);
        Check.due("normal", Check.normal(x, "f(a)"), 0);
        shows(x, 4, 0, "", 0);
        shows(x, 2, 0, "a=a", 3);
    }

    private static void shorterBehindLonger() {
        NarrowHouse x = Check.house("sym a 0, " + S + " 1, u 1; rule u(X)->" + tower(S, 39, "X") + ";");
        Check.due("normal", Check.normal(x, "u(u(u(a)))"), 3);
        holds(x, tower(S, 117, "a"));
        Check.due("normal", Check.normal(x, S + "(a)"), 0);
        holds(x, S + "(a)");
        Check.due("unify", Check.unify(x, "X=a"), 1);
        holds(x, "X=a");
        Check.due("normal", Check.normal(x, "X"), 0);
        holds(x, "X");
        // what has no NORMAL FORM to show leaves it
        Check.due("normal", Check.normal(x, "u(u(u(u(u(u(a))))))"), -2);
        holds(x, "X");
        Check.due("normal", Check.normal(x, "q"), -4);
        holds(x, "X");
    }

    private static void bytesOfAny() {
        NarrowHouse x = Check.house("sym a 0;");
        for (int k = 0; k < 2; k++) {
            for (int i : new int[] {Integer.MIN_VALUE, -1001, -1, k, 1, 2, 999, 1000, 1001, 1600, 1 << 30, Integer.MAX_VALUE}) {
                Check.due("out(" + i + ")", x.out(i), NONE);
            }
            Check.due("normal", Check.normal(x, "a"), 0);
            Check.due("out(0)", x.out(0), 'a');
        }
    }

    /** "NONE (OUT stays) for others." */
    private static void showOfAny() {
        NarrowHouse x = Check.house("sym a 0, b 0; rule b->a; rule b->a;");
        Check.due("goal", Check.goal(x, "b=X", true), 0);
        Check.due("normal", Check.normal(x, "b"), 1);
        int[] wild = {Integer.MIN_VALUE, -2, -1, 2, 3, 16, 200, 300, 1000, 1 << 28, 1 << 29, 1 << 30, Integer.MAX_VALUE};
        for (int k : wild) {
            for (int what = 0; what <= 4; what++) {
                Check.due("show(" + what + "," + k + ")", x.show(what, k), NONE);
                Check.due("OUT stays", Check.out(x), "a");
            }
        }
        for (int what : new int[] {Integer.MIN_VALUE, -1, 5, 6, Integer.MAX_VALUE}) {
            Check.due("show(" + what + ",0)", x.show(what, 0), NONE);
            Check.due("OUT stays", Check.out(x), "a");
        }
        int[] has = {2, 2, 1, 1, 1};
        String[] due = {"b->a", "a=a", "b=X", "X=X", "X=b"};
        for (int what = 0; what <= 4; what++) {
            shows(x, what, has[what] - 1, due[what], due[what].length());
            Check.due("show(" + what + "," + has[what] + ")", x.show(what, has[what]), NONE);
            Check.due("OUT stays", Check.out(x), due[what]);
        }
    }

    /** "VARIABLES of the GOAL by their names, if one of them is the same one the first of these". */
    private static void firstOfThoseThatAreOne() {
        NarrowHouse x = Check.house("sym a 0, k 4, d 2; rule d(X,X)->X; rule d(k(X,Y,Y,X),Z)->Z;");
        Check.due("goal", Check.goal(x, "d(C,A)=k(A,B,C,D)", false), 0);
        Check.due("expand(1)", x.expand(1), 1);
        shows(x, 3, 0, "C=C,A=A,B=B,D=D", 15);
        shows(x, 2, 1, "C=k(C,B,C,D)", 12);
        shows(x, 3, 1, "C=C,A=C,B=B,D=D", 15);
        shows(x, 2, 2, "A=k(A,B,k(_1,_2,_2,_1),D)", 25);
        shows(x, 3, 2, "C=k(_1,_2,_2,_1),A=A,B=B,D=D", 28);
        Check.due("no ANSWER", x.tree(3), 0);
    }

    private static void eightVariablesOfARule() {
        String eight = "f(A1,B2,C3,f(D4,E5,F6,f(G7,Abcdefgh,A1,A1)))";
        NarrowHouse x = Check.house("sym f 4; rule f(X,X,X,X)->X; rule " + eight + "->Abcdefgh;");
        String due = eight + "->Abcdefgh";
        shows(x, 0, 1, due, due.length());
        shows(x, 0, 0, "f(X,X,X,X)->X", 13);
    }

    /** Names of other GOALS, TERMS and RULES are none of this one's. */
    private static void namesOfAnEarlierGoal() {
        NarrowHouse x = Check.house("sym a 0, s 1, k 4, f 1; rule f(s(X))->s(X); rule f(X)->X;");
        for (int k = 0; k < 2; k++) Check.due("goal", Check.goal(x, "k(A,B,C,D)=k(E,F,A,B)", false), 0);
        Check.due("unify", Check.unify(x, "k(A,B,C,D)=k(E,F,A,B)"), 1);
        Check.due("goal", Check.goal(x, "f(f(X))=a", false), 0);
        Check.due("expand(9)", x.expand(9), 8);
        shows(x, 2, 1, "f(X)=a", 6);
        shows(x, 2, 2, "f(s(_1))=a", 10);
        shows(x, 3, 2, "X=s(_1)", 7);
        shows(x, 2, 3, "f(X)=a", 6);
        shows(x, 2, 4, "s(_1)=a", 7);
        shows(x, 3, 4, "X=s(_1)", 7);
        shows(x, 2, 5, "s(_1)=a", 7);
        shows(x, 3, 6, "X=s(_1)", 7);
        shows(x, 2, 7, "X=a", 3);
        shows(x, 3, 7, "X=X", 3);
        shows(x, 4, 0, "X=a", 3);
    }

    private static String nested(int steps, String end) {
        String text = end;
        for (int k = 0; k < steps; k++) text = "k(" + text + ",?,?,k(?,?,?,?))";
        return text;
    }

    private static String numbered(String text) {
        String done = text;
        for (int k = 1; done.indexOf('?') >= 0; k++) done = done.replaceFirst("\\?", "_" + k);
        return done;
    }

    /** Each STEP asks for seven VARIABLES where one was, twelve times for X and twelve times for Y. */
    private static void moreThanAHundredVariables() {
        String many = "k(A,B,C,k(D,E,F,G))";
        NarrowHouse x = Check.house("sym z 0, k 4, f 2; rule f(" + many + ",Y)->f(A,Y); rule f(z," + many + ")->f(z,A);");
        Check.due("goal", Check.goal(x, "f(X,Y)=z", false), 0);
        for (int k = 0; k < 3; k++) x.expand(100);
        Check.due("CLOSED", x.tree(0), 2);
        // X is taken apart 0 to 12 times, then Y 0 to 12 times
        Check.due("NODES", x.tree(1), 13 * 13);
        int last = x.tree(1) - 1;
        Check.due("depth", x.node(last, 3), 24);
        shows(x, 2, last, "f(z,_1)=z", 9);
        String due = numbered("X=" + nested(12, "z") + ",Y=" + nested(12, "?"));
        Check.due("the last one", due.indexOf("_145"), due.length() - 6);
        shows(x, 3, last, due, due.length());
        int third = NONE;
        for (int i = 0; i <= last; i++) if (x.node(i, 3) == 3 && x.node(i, 2) == 0) third = i;
        due = numbered("X=" + nested(3, "?") + ",Y=Y");
        shows(x, 3, third, due, due.length());
    }

    /** VARIABLES beyond the sixteenth, where all sixteen SYMBOLS have ARGUMENTS. */
    private static void sixteenSymbolsAndMoreVariables() {
        StringBuilder text = new StringBuilder("sym z 0");
        for (int k = 0; k < 13; k++) text.append(", ").append((char) ('a' + k)).append(" 4");
        String many = "a(A,B,C,a(D,E,F,G))";
        NarrowHouse x = Check.house(text + ", n 4, w 2; rule w(" + many + ",Y)->w(A,Y); rule w(z," + many + ")->w(z,A);");
        Check.due("SYMBOLS", x.count(0), 16);
        Check.due("goal", Check.goal(x, "w(X,Y)=z", true), 0);
        for (int k = 0; k < 3; k++) x.expand(100);
        Check.due("NODES", x.tree(1), 13 * 13);
        String due = numbered("X=" + nested(12, "z") + ",Y=" + nested(12, "?")).replace('k', 'a');
        shows(x, 3, 13 * 13 - 1, due, due.length());
    }
}
