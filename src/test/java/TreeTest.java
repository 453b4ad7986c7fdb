/** Promises 9 to 12: the GOAL, and how the TREE grows of it. */
final class TreeTest {
    private static final int NONE = NarrowHouse.NONE;
    private static final String PLUS = "sym z 0, s 1, plus 2; rule plus(z,Y)->Y; rule plus(s(X),Y)->s(plus(X,Y));";

    public static void main(String[] args) {
        nodeZero();
        goalsThatAreNone();
        expandCounts();
        places();
        basicMarks();
        fullMarks();
        basicAndFullDiffer();
        newVariables();
        lost();
        lostAnswers();
        anotherGoal();
        whatIsNoNode();
        firstSymbol();
        Check.end();
    }

    private static NarrowHouse planted(String system, String goal, boolean full) {
        NarrowHouse x = Check.house(system);
        Check.due("goal(" + goal + ")", Check.goal(x, goal, full), 0);
        Check.due("fault(0)", x.fault(0), 0);
        Check.due("fault(1)", x.fault(1), NONE);
        return x;
    }

    private static void tree(NarrowHouse x, int... due) {
        for (int what = 0; what < due.length; what++) Check.due("tree(" + what + ")", x.tree(what), due[what]);
    }

    private static void node(NarrowHouse x, int i, String equation, String values, int... due) {
        Check.due("EQUATION of " + i, Check.show(x, 2, i), equation);
        Check.due("VALUES of " + i, Check.show(x, 3, i), values);
        for (int what = 0; what < due.length; what++) Check.due("node(" + i + "," + what + ")", x.node(i, what), due[what]);
    }

    private static void nodeZero() {
        NarrowHouse x = planted(PLUS, "plus(X,s(Y))=s(s(z))", false);
        tree(x, 1, 1, 0, 0, 0, 4 + 4 + 3 + 2, 2);
        node(x, 0, "plus(X,s(Y))=s(s(z))", "X=X,Y=Y", NONE, NONE, NONE, 0, 4, 3, 5, NONE);
        x = planted(PLUS, "plus(X,s(Y))=plus(z,Z)", true);
        tree(x, 1, 1, 0, 1, 0, (4 + 4 + 3 + 3) + (2 + 1 + 1 + 2), 3);
        node(x, 0, "plus(X,s(Y))=plus(z,Z)", "X=X,Y=Y,Z=Z", NONE, NONE, NONE, 0, 4, 3, 4, 0);
        x = planted(PLUS, "z=z", false);
        tree(x, 1, 1, 0, 1, 0, 4 + 2 + 2, 0);
        Check.due("no VALUES", x.show(3, 0), 0);
        x = planted(PLUS, "X=Y", false);
        tree(x, 1, 1, 0, 1, 0, 4 + 2 + 2 + 2 + 2, 2);
        Check.due("none to EXPAND but NODE 0", x.expand(9), 1);
        tree(x, 2, 1, 1);
    }

    private static void goalsThatAreNone() {
        NarrowHouse x = planted(PLUS, "plus(X,Y)=z", false);
        x.expand(1);
        String[][] wrong = {{"1", "X=^@"}, {"2", "X^"}, {"2", "X=z ^rule"}, {"3", "plus(A,plus(B,plus(C,D)))=plus(E,plus(F,^G))"}, {"5", "X=^q"},
            {"6", "X=^s"}, {"2", "X ^-> Y"}};
        for (String[] one : wrong) {
            int kind = Integer.parseInt(one[0]);
            Check.due("goal(" + one[1] + ")", Check.goal(x, one[1].replace("^", ""), true), kind);
            Check.due("FAULT of " + one[1], x.fault(0), kind);
            Check.due("place of " + one[1], x.fault(1), one[1].indexOf('^'));
            tree(x, 1, 3, 1, 1, 0, (4 + 3 + 1 + 2) + (4 + 1 + 1 + 2) + (4 + 4 + 1 + 3) + (2 + 2), 2);
            Check.due("the TREE stays", Check.show(x, 2, 0), "plus(X,Y)=z");
        }
        Check.feed(x, "X=z");
        Check.due("goal(-1)", x.goal(-1, true), NONE);
        Check.due("goal(21)", x.goal(21, true), NONE);
        Check.due("the tape stays", x.goal(3, true), 0);
        NarrowHouse y = new NarrowHouse();
        Check.feed(y, "X=Y");
        Check.due("goal without a SYSTEM", y.goal(3, true), NONE);
        Check.due("expand without a TREE", y.expand(1), NONE);
        Check.due("no SYMBOL is needed", Check.goal(planted(PLUS, "z=z", true), "A=A", true), 0);
        planted(PLUS, "plus(A,plus(B,plus(C,D)))=plus(E,plus(F,A))", true);
    }

    private static void expandCounts() {
        NarrowHouse x = planted(PLUS, "plus(X,Y)=s(s(z))", false);
        Check.due("expand(0)", x.expand(0), NONE);
        Check.due("expand(-1)", x.expand(-1), NONE);
        Check.due("expand(101)", x.expand(101), NONE);
        tree(x, 1, 1, 0);
        Check.due("expand(1)", x.expand(1), 1);
        tree(x, 1, 3, 1, 1);
        Check.due("expand(1)", x.expand(1), 1);
        tree(x, 1, 3, 2);
        Check.due("expand(100)", x.expand(100), 100);
        Check.due("EXPANDED", x.tree(2), 102);
        NarrowHouse y = planted("sym a 0, f 1, g 2; rule f(f(X))->X; rule g(X,X)->a;", "g(f(X),f(f(X)))=a", false);
        Check.due("expand(5)", y.expand(5), 5);
        Check.due("OPEN", y.tree(0), 1);
        Check.due("expand(100)", y.expand(100), 7);
        tree(y, 2, 12, 12, 0, 0, 142, 1);
        Check.due("expand(100) when CLOSED", y.expand(100), 0);
        Check.due("expand(101) when CLOSED", y.expand(101), NONE);
    }

    /** PLACES of the left side, then of the right one; RULES in order at each. */
    private static void places() {
        NarrowHouse x = planted("sym a 0, b 0, f 1, g 2; rule f(X)->X; rule f(a)->b;", "g(f(a),f(X))=g(X,f(f(a)))", false);
        Check.due("expand(1)", x.expand(1), 1);
        Check.due("NODES", x.tree(1), 8);
        // the a of f(a) comes for the RULE's X, and is not MARKED then
        node(x, 1, "g(a,f(X))=g(X,f(f(a)))", "X=X", 0, 1, 0, 1, 4, 5, 6);
        node(x, 2, "g(b,f(X))=g(X,f(f(a)))", "X=X", 0, 1, 1, 1, 4, 5, 7);
        node(x, 3, "g(f(a),X)=g(X,f(f(a)))", "X=X", 0, 3, 0, 1, 4, 5, 7);
        node(x, 4, "g(f(a),b)=g(a,f(f(a)))", "X=a", 0, 3, 1, 1, 4, 5, 8);
        node(x, 5, "g(f(a),f(X))=g(X,f(a))", "X=X", 0, 7, 0, 1, 5, 4, 5, NONE);
        node(x, 6, "g(f(a),f(X))=g(X,f(a))", "X=X", 0, 8, 0, 1, 5, 4, 6, NONE);
        node(x, 7, "g(f(a),f(X))=g(X,f(b))", "X=X", 0, 8, 1, 1, 5, 4, 7, NONE);
        node(x, 8, "NONE", "NONE");
    }

    private static void basicMarks() {
        NarrowHouse x = planted(PLUS, "plus(s(X),plus(s(z),z))=Y", false);
        Check.due("expand(1)", x.expand(1), 1);
        // what was put for the RULE's Y came for a VARIABLE, marked as it had been
        node(x, 1, "s(plus(X,plus(s(z),z)))=Y", "X=X,Y=Y", 0, 0, 1, 1, 7, 1, 2);
        node(x, 2, "plus(s(X),s(plus(z,z)))=Y", "X=X,Y=Y", 0, 3, 1, 1, 7, 1, 4);
        Check.due("expand(1)", x.expand(1), 1);
        node(x, 3, "s(plus(s(z),z))=Y", "X=z,Y=Y", 1, 1, 0, 2, 5, 1, 1);
        node(x, 4, "s(s(plus(_1,plus(s(z),z))))=Y", "X=s(_1),Y=Y", 1, 1, 1, 2, 8, 1, 3);
        Check.due("NODES", x.tree(1), 5);
    }

    private static void fullMarks() {
        NarrowHouse x = planted(PLUS, "plus(s(X),plus(s(z),z))=Y", true);
        Check.due("expand(1)", x.expand(1), 1);
        node(x, 1, "s(plus(X,plus(s(z),z)))=Y", "X=X,Y=Y", 0, 0, 1, 1, 7, 1, 6);
        node(x, 2, "plus(s(X),s(plus(z,z)))=Y", "X=X,Y=Y", 0, 3, 1, 1, 7, 1, 6);
        Check.due("expand(1)", x.expand(1), 1);
        node(x, 3, "s(plus(s(z),z))=Y", "X=z,Y=Y", 1, 1, 0, 2, 5, 1, 5);
        node(x, 5, "s(plus(X,s(plus(z,z))))=Y", "X=X,Y=Y", 1, 3, 1, 2, 7, 1, 6);
    }

    /** f(f(X)) with X becoming f(_1): only where all SYMBOLS are MARKED that is looked into. */
    private static void basicAndFullDiffer() {
        String system = "sym a 0, f 1, g 2; rule f(f(X))->X;";
        NarrowHouse x = planted(system, "g(X,f(X))=a", false);
        Check.due("expand(100)", x.expand(100), 2);
        tree(x, 2, 2, 2, 0, 0);
        node(x, 1, "g(f(_1),_1)=a", "X=f(_1)", 0, 2, 0, 1, 4, 1, 2, NONE);
        NarrowHouse y = planted(system, "g(X,f(X))=a", true);
        node(y, 0, "g(X,f(X))=a", "X=X", NONE, NONE, NONE, 0, 4, 1, 3, NONE);
        Check.due("expand(3)", y.expand(3), 3);
        node(y, 1, "g(f(_1),_1)=a", "X=f(_1)", 0, 2, 0, 1, 4, 1, 3, NONE);
        node(y, 2, "g(_1,f(_1))=a", "X=f(f(_1))", 1, 1, 0, 2, 4, 1, 3, NONE);
        node(y, 3, "g(f(_1),_1)=a", "X=f(f(f(_1)))", 2, 2, 0, 3, 4, 1, 3, NONE);
        Check.due("OPEN", y.tree(0), 1);
    }

    private static void newVariables() {
        NarrowHouse x = planted("sym a 0, k 4, f 2; rule f(k(A,B,C,D),k(D,C,B,A))->f(A,D);", "f(X,Y)=f(Y,X)", false);
        Check.due("expand(1)", x.expand(1), 1);
        node(x, 1, "f(_1,_2)=f(k(_2,_3,_4,_1),k(_1,_4,_3,_2))", "X=k(_1,_2,_3,_4),Y=k(_4,_3,_2,_1)", 0, 0, 0, 1, 3, 11, 2, NONE);
        node(x, 2, "f(k(_1,_2,_3,_4),k(_4,_3,_2,_1))=f(_4,_1)", "X=k(_1,_2,_3,_4),Y=k(_4,_3,_2,_1)", 0, 3, 0, 1, 11, 3, 2, NONE);
        NarrowHouse y = planted("sym a 0, f 2; rule f(A,A)->A;", "f(f(X,Y),f(Z,X))=a", false);
        Check.due("expand(1)", y.expand(1), 1);
        node(y, 1, "f(X,X)=a", "X=X,Y=X,Z=X", 0, 0, 0);
        node(y, 2, "f(X,f(Z,X))=a", "X=X,Y=X,Z=Z", 0, 1, 0);
        node(y, 3, "f(f(X,Y),X)=a", "X=X,Y=Y,Z=X", 0, 4, 0);
    }

    private static String tower(int count, String end) {
        StringBuilder text = new StringBuilder();
        for (int k = 0; k < count; k++) text.append("s(");
        text.append(end);
        for (int k = 0; k < count; k++) text.append(")");
        return text.toString();
    }

    /** u makes 39 s of one sign. */
    private static void lost() {
        String system = "sym a 0, s 1, u 1; rule u(X)->" + tower(39, "X") + ";";
        NarrowHouse x = planted(system, "u(u(" + tower(20, "a") + "))=X", false);
        Check.due("expand(9)", x.expand(9), 4);
        tree(x, 2, 4, 4, 4, 0);
        Check.due("39 + 39 + 20 + 1", x.node(3, 4), 99);
        x = planted(system, "u(u(" + tower(21, "a") + "))=a", false);
        Check.due("expand(9)", x.expand(9), 4);
        tree(x, 2, 4, 4, 0, 0);
        Check.due("SIZE 100", x.node(3, 4), 100);
        x = planted(system, "u(u(" + tower(22, "a") + "))=a", false);
        Check.due("expand(9)", x.expand(9), 3);
        tree(x, 2, 3, 3, 0, 1, (4 + 25 + 1) + 2 * (4 + 63 + 1), 0);
        x = planted(system, "a=u(u(" + tower(22, "a") + "))", true);
        Check.due("expand(9)", x.expand(9), 3);
        tree(x, 2, 3, 3, 0, 2);
        NarrowHouse y = planted("sym a 0, s 1, w 1; rule w(" + tower(33, "X") + ")->w(X);", "w(X)=a", false);
        Check.due("expand(9)", y.expand(9), 4);
        tree(y, 2, 4, 4, 0, 1, (4 + 2 + 1 + 1) + (4 + 3 + 34) + (4 + 3 + 67) + (4 + 3 + 100), 1);
        y = planted("sym a 0, s 1, w 1; rule w(" + tower(34, "X") + ")->w(X);", "w(X)=a", false);
        Check.due("a VALUE of 103", y.expand(9), 3);
        tree(y, 2, 3, 3, 0, 1);
        Check.due("goal", Check.goal(y, "w(X)=a", false), 0);
        tree(y, 1, 1, 0, 0, 0, 4 + 2 + 1 + 1, 1);
    }

    /** The sides are small, but what a VARIABLE becomes is not; and three doublings of 12 signs and more. */
    private static void lostAnswers() {
        String system = "sym a 0, c 2, d 1; rule d(X)->c(X,X);";
        NarrowHouse x = planted(system, "c(c(A,B),c(C,D))=c(c(c(B,B),c(C,C)),c(c(D,D),c(c(c(c(E,E),c(E,E)),E),c(F,c(F,F)))))", false);
        tree(x, 1, 1, 0, 0, 1, 4 + 7 + 27 + 6, 6);
        Check.due("no ANSWER", x.node(0, 7), NONE);
        x = planted(system, "c(A,B)=c(c(B,B),c(c(c(C,C),c(C,C)),c(c(C,C),c(C,C))))", false);
        tree(x, 1, 1, 0, 1, 0);
        Check.due("ANSWER 0", x.node(0, 7), 0);
        x = planted("sym a 0, f 1, c 2; rule f(X)->X; rule f(a)->a;",
            "f(c(c(A,B),c(C,D)))=c(c(c(B,B),c(C,C)),c(c(D,D),c(c(c(c(E,E),c(E,E)),E),f(c(F,c(F,F))))))", false);
        tree(x, 1, 1, 0, 0, 0);
        Check.due("expand(1)", x.expand(1), 1);
        tree(x, 1, 3, 1, 0, 1);
        Check.due("expand(9)", x.expand(9), 4);
        tree(x, 2, 5, 5, 0, 3);
        Check.due("no ANSWER", x.node(3, 7), NONE);
    }

    /** SYMBOLS that were told first are like the others. */
    private static void firstSymbol() {
        NarrowHouse x = planted("sym f 1, a 0; rule f(f(X))->X;", "f(f(f(a)))=f(X)", false);
        Check.due("expand(9)", x.expand(9), 8);
        node(x, 0, "f(f(f(a)))=f(X)", "X=X", NONE, NONE, NONE, 0, 4, 2, 5, 0);
        node(x, 1, "f(a)=f(X)", "X=X", 0, 0, 0, 1, 2, 2, 1, 1);
        node(x, 2, "f(a)=f(X)", "X=X", 0, 1, 0, 1, 2, 2, 2, 2);
        node(x, 3, "f(f(f(a)))=_1", "X=f(_1)", 0, 4, 0, 1, 4, 1, 4, 3);
    }

    private static void anotherGoal() {
        NarrowHouse x = planted(PLUS, "plus(X,Y)=s(s(z))", false);
        x.expand(50);
        Check.due("goal", Check.goal(x, "plus(z,z)=z", true), 0);
        tree(x, 1, 1, 0, 0, 0, 4 + 3 + 1, 0);
        Check.due("NODE 1", x.node(1, 0), NONE);
        Check.due("ANSWER 0", x.answer(0, 0), NONE);
        Check.due("expand", x.expand(5), 2);
        tree(x, 2, 2, 2, 1, 0);
        node(x, 1, "z=z", "", 0, 0, 0, 1, 1, 1, 2, 0);
    }

    private static void whatIsNoNode() {
        NarrowHouse x = planted(PLUS, "plus(X,Y)=s(s(z))", false);
        x.expand(1);
        for (int what = 0; what <= 7; what++) {
            Check.due("node(3," + what + ")", x.node(3, what), NONE);
            Check.due("node(-1," + what + ")", x.node(-1, what), NONE);
            Check.due("node(MAX," + what + ")", x.node(Integer.MAX_VALUE, what), NONE);
        }
        Check.due("node(1,8)", x.node(1, 8), NONE);
        Check.due("node(1,-1)", x.node(1, -1), NONE);
        Check.due("tree(7)", x.tree(7), NONE);
        Check.due("tree(-1)", x.tree(-1), NONE);
        Check.due("show(2,3)", x.show(2, 3), NONE);
        Check.due("show(3,-1)", x.show(3, -1), NONE);
    }
}
