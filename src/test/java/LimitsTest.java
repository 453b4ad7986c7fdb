/** Trees that get FULL, and what else is much: the program and the plain retelling of the document side by side. */
final class LimitsTest {
    private static final String PLUS = "sym z 0, s 1, p 2; rule p(z,Y)->Y; rule p(s(X),Y)->s(p(X,Y));";

    private NarrowHouse house = new NarrowHouse();
    private Oracle oracle = new Oracle();

    public static void main(String[] args) {
        fullOfNodes();
        fullOfAnswers();
        fullOfCells();
        fullOfCellsByAnAnswer();
        exactlyAThousandNodes();
        exactlyThreeHundredAnswers();
        exactlyThirtyThousandCells();
        lostBesideFull();
        greatNodes();
        longPath();
        manyCallsOnOne();
        Check.end();
    }

    private void feed(String text) {
        for (int from = 0; from < text.length(); from += 20) {
            int[] w = new int[5];
            for (int k = 0; k < 5; k++) w[k] = Check.word(text, from + 4 * k);
            Check.due("feed", house.feed(w[0], w[1], w[2], w[3], w[4]), oracle.feed(w[0], w[1], w[2], w[3], w[4]));
        }
    }

    private static LimitsTest planted(String system, String goal, boolean full) {
        LimitsTest both = new LimitsTest();
        both.feed(system);
        Check.due(system, both.house.system(system.length()), 0);
        Check.due(system, both.oracle.system(system.length()), 0);
        both.plant(goal, full);
        return both;
    }

    private void plant(String goal, boolean full) {
        feed(goal);
        Check.due(goal, house.goal(goal.length(), full), 0);
        Check.due(goal, oracle.goal(goal.length(), full), 0);
    }

    private void same(String what, long got, long want) {
        Check.due(what, got, want);
    }

    private void sameTree() {
        for (int what = 0; what <= 6; what++) same("tree(" + what + ")", house.tree(what), oracle.tree(what));
    }

    private void grow(int by) {
        for (int k = 0; k < 40 && oracle.tree(0) == 1; k++) {
            same("expand", house.expand(by), oracle.expand(by));
            sameTree();
        }
        same("expand at the end", house.expand(by), oracle.expand(by));
        sameTree();
        int nodes = oracle.tree(1);
        for (int i = 0; i <= nodes; i += i > 5 && i < nodes - 5 ? 5 : 1) {
            for (int what = 0; what <= 7; what++) same("node(" + i + "," + what + ")", house.node(i, what), oracle.node(i, what));
            sameShow(2, i);
            sameShow(3, i);
        }
        int answers = oracle.tree(3);
        for (int k = 0; k <= answers; k += k > 5 && k < answers - 5 ? 5 : 1) {
            same("answer(" + k + ",0)", house.answer(k, 0), oracle.answer(k, 0));
            same("answer(" + k + ",1)", house.answer(k, 1), oracle.answer(k, 1));
            sameShow(4, k);
        }
    }

    private void sameShow(int what, int k) {
        same("show(" + what + "," + k + ")", house.show(what, k), oracle.show(what, k));
        for (int i = 0; i < 1001 && (i == 0 || oracle.out(i - 1) >= 0); i += 3) same("out(" + i + ")", house.out(i), oracle.out(i));
    }

    private void reached(int what, int count) {
        same("the tree is FULL", house.tree(0), 3);
        same("tree(" + what + ")", house.tree(what), count);
        int expanded = house.tree(2);
        same("expand then", house.expand(100), 0);
        same("EXPANDED then", house.tree(2), expanded);
    }

    private static void fullOfNodes() {
        LimitsTest both = planted(PLUS, "p(X,Y)=p(Y,X)", false);
        both.grow(100);
        both.reached(1, 1000);
        both.plant("p(p(X,Y),p(Z,z))=s(p(Y,X))", true);
        both.grow(37);
        both.reached(1, 1000);
        both.plant("z=z", true);
        both.grow(1);
        both.same("CLOSED", both.house.tree(0), 2);
    }

    private static void fullOfAnswers() {
        LimitsTest both = planted(PLUS, "p(X,p(Y,Z))=s(s(s(W)))", false);
        both.grow(100);
        both.reached(3, 300);
        both = planted("sym a 0, c 2, d 1; rule d(X)->c(X,X);", "d(d(d(d(d(d(X))))))=Y", true);
        both.grow(7);
        both.reached(3, 300);
        both.same("as many NODES and one", both.house.tree(1), 301);
    }

    private static void fullOfCells() {
        LimitsTest both = planted(PLUS, "p(X,Y)=Z", false);
        both.grow(100);
        both.same("FULL", both.house.tree(0), 3);
        both.same("below 30,000", both.house.tree(5) <= 30000 && both.house.tree(5) > 29700 ? 1 : 0, 1);
        both = planted("sym z 0, s 1, p 2, k 4; rule p(z,Y)->Y; rule p(s(X),Y)->s(p(X,Y));", "k(p(A,B),p(C,D),p(E,F),z)=k(z,z,z,"
            + tower(20, "z") + ")", false);
        both.grow(50);
        both.same("FULL", both.house.tree(0), 3);
    }

    private static String tower(int count, String end) {
        StringBuilder text = new StringBuilder();
        for (int k = 0; k < count; k++) text.append("s(");
        text.append(end);
        for (int k = 0; k < count; k++) text.append(")");
        return text.toString();
    }

    private static final String SYMBOLS = "sym p 0, q 0, r 0, t 0, u 0, v 0, s 1, d 2, c 4; ";
    /** c(u,v,p,v) with these comes to a thousand NODES and no more. */
    private static final String THOUSAND = SYMBOLS + "rule r->q; rule q->p; rule v->q; rule t->p; rule u->r; rule v->p;";
    /** And c(p,r,v,p) with these to three hundred. */
    private static final String THREE_HUNDRED = SYMBOLS
        + "rule r->q; rule q->p; rule u->q; rule v->u; rule r->q; rule v->t; rule r->p; rule u->r;";

    private static void exactlyAThousandNodes() {
        LimitsTest both = planted(THOUSAND, "c(u,v,p,v)=p", false);
        both.grow(100);
        both.same("CLOSED", both.house.tree(0), 2);
        both.same("NODES", both.house.tree(1), 1000);
        both.same("EXPANDED", both.house.tree(2), 1000);
        both.plant("c(u,v,p,v)=q", true);
        both.grow(100);
        both.reached(1, 1000);
    }

    private static void exactlyThreeHundredAnswers() {
        LimitsTest both = planted(THREE_HUNDRED, "c(p,r,v,X)=Z", false);
        both.grow(100);
        both.same("CLOSED", both.house.tree(0), 2);
        both.same("ANSWERS", both.house.tree(3), 300);
        both = planted(THREE_HUNDRED + " rule t->p;", "c(p,r,v,X)=Z", false);
        both.grow(100);
        both.reached(3, 300);
    }

    private static void exactlyThirtyThousandCells() {
        LimitsTest both = planted(THOUSAND, "c(u,v,p,v)=" + tower(20, "p"), false);
        both.grow(100);
        both.same("CLOSED", both.house.tree(0), 2);
        both.same("4 + 5 + 21 CELLS each", both.house.tree(5), 30000);
        both.plant("c(u,v,p,v)=" + tower(21, "p"), false);
        both.grow(100);
        both.reached(5, 967 * 31);
        both.same("NODES", both.house.tree(1), 967);
        both = planted(THREE_HUNDRED, "d(" + tower(2, "c(p,r,v,p)") + ",W)=d(Z," + tower(36, "p") + ")", false);
        both.grow(100);
        both.same("CLOSED", both.house.tree(0), 2);
        both.same("54 CELLS of a NODE, 46 of its ANSWER", both.house.tree(5), 30000);
        both.same("ANSWERS", both.house.tree(3), 300);
        both = planted(THREE_HUNDRED, "d(" + tower(33, "c(p,r,v,p)") + ",A)=d(Z," + tower(23, "Z") + ")", false);
        both.grow(100);
        both.reached(5, 173 * (72 + 101));
        both.same("one NODE more would make 30,001", both.house.tree(1), 173);
        both = planted(THREE_HUNDRED, "d(" + tower(31, "c(p,r,v,p)") + ",A)=d(Z," + tower(8, "Z") + ")", false);
        both.grow(100);
        both.reached(5, 218 * (55 + 82) + 55);
        both.same("one ANSWER more would make 30,003", both.house.tree(3), 218);
    }

    /** 277 times 58 CELLS of a NODE and 50 of its ANSWER: then there is room for one NODE more, but not for its ANSWER. */
    private static void fullOfCellsByAnAnswer() {
        LimitsTest both = planted(THREE_HUNDRED, "d(" + tower(6, "c(p,r,v,p)") + ",W)=d(Z," + tower(36, "p") + ")", false);
        both.grow(100);
        both.reached(5, 277 * 108 + 58);
        both.same("NODES", both.house.tree(1), 278);
        both.same("ANSWERS", both.house.tree(3), 277);
        both.same("the last one has none", both.house.node(277, 7), NarrowHouse.NONE);
        both.same("it is there", both.house.node(277, 4), 13);
    }

    /** What is LOST takes no room: each of the thousand NODES loses one, and the TREE is not FULL by that. */
    private static void lostBesideFull() {
        String system = THOUSAND.replace("c 4;", "c 4, w 1;") + " rule w(X)->c(c(X,X,X,X),c(X,X,X,X),X,X);";
        LimitsTest both = planted(system, "c(u,v,p,v)=w(" + tower(9, "p") + ")", false);
        both.grow(100);
        both.same("CLOSED", both.house.tree(0), 2);
        both.same("NODES", both.house.tree(1), 1000);
        both.same("LOST", both.house.tree(4), 1000);
        for (boolean full : new boolean[] {false, true}) {
            both = planted("sym a 0, s 1, c 2, d 1; rule d(X)->c(X,X);", "d(d(" + tower(30, "X") + "))=Y", full);
            both.grow(100);
            both.same("LOST", both.house.tree(4), full ? 3 : 1);
        }
    }

    /** One path, on which the VALUES of six VARIABLES and both sides get as great as they may. */
    private static void greatNodes() {
        String five = "q(s(s(s(s(s(A))))),s(s(s(s(s(B))))),s(s(s(s(s(C))))),r(s(s(s(s(s(D))))),s(s(s(s(s(E))))),s(s(s(s(s(F)))))))";
        String system = "sym a 0, s 1, r 3, q 4, k 2; rule " + five + "->q(A,B,C,r(D,E,F));";
        for (boolean full : new boolean[] {false, true}) {
            LimitsTest both = planted(system, "k(q(A,B,C,r(D,E,F)),A)=D", full);
            both.grow(5);
            both.same("CLOSED", both.house.tree(0), 2);
            both.same("NODES", both.house.tree(1), 19);
            both.same("SIZE of the left side", both.house.node(18, 4), 100);
            both.same("LOST", both.house.tree(4), 1);
        }
    }

    /** One path of many NODES, each with new VARIABLES. */
    private static void longPath() {
        String system = "sym z 0, s 1, q 4; rule q(s(A),z,B,X)->q(A," + tower(10, "z") + ",X,B); rule q(A,s(B),C,X)->q(A,B,X,C);";
        LimitsTest both = planted(system, "q(" + tower(25, "z") + ",z,X,Y)=z", false);
        both.grow(100);
        both.same("CLOSED", both.house.tree(0), 2);
        both.same("NODES", both.house.tree(1), 276);
        both.same("depth", both.house.node(275, 3), 275);
    }

    /** 512 calls, most of them dear ones. */
    private static void manyCallsOnOne() {
        LimitsTest both = planted(PLUS, "p(X,Y)=Z", false);
        for (int k = 0; k < 6; k++) {
            both.plant(k % 2 == 0 ? "p(X,Y)=p(Y,X)" : "p(X,p(Y,Z))=s(s(s(W)))", k % 3 == 0);
            for (int n = 0; n < 12; n++) both.same("expand", both.house.expand(100), both.oracle.expand(100));
            both.sameTree();
        }
    }
}
