/** The bounds that the words on THE TREE name, and promises 9 to 14. */
final class TreeBoundsTest {
    private static final int NONE = NarrowHouse.NONE;

    public static void main(String[] args) {
        sideOfAHundredAndOne();
        valueOfAHundredAndOne();
        answerOfAHundredAndOne();
        lostOnesAreNoNodes();
        thousandAndOneNodes();
        threeHundredAndOneAnswers();
        thirtyThousandCells();
        fullInTheFirstNode();
        greatestNode();
        fullTreeStays();
        expandOneToAHundred();
        closedWithTheLastNode();
        openClosedFull();
        nodeZeroCameOfNone();
        placesOfTheRightSide();
        marks();
        variablesOfTheGoal();
        nodesAndAnswersOfAny();
        answerAboveTwoHundred();
        answerTiredOrGreat();
        coversWithSharedVariables();
        Check.end();
    }

    private static String tower(String sign, int count, String end) {
        StringBuilder text = new StringBuilder();
        for (int k = 0; k < count; k++) text.append(sign).append("(");
        text.append(end);
        for (int k = 0; k < count; k++) text.append(")");
        return text.toString();
    }

    private static String rules(int count, String rule) {
        StringBuilder text = new StringBuilder();
        for (int k = 0; k < count; k++) text.append("rule ").append(rule).append("; ");
        return text.toString();
    }

    private static NarrowHouse planted(String system, String goal, boolean full) {
        NarrowHouse x = Check.house(system);
        Check.due("goal(" + goal + ")", Check.goal(x, goal, full), 0);
        return x;
    }

    private static void tree(NarrowHouse x, int... due) {
        for (int what = 0; what < due.length; what++) Check.due("tree(" + what + ")", x.tree(what), due[what]);
    }

    private static void node(NarrowHouse x, int i, int... due) {
        for (int what = 0; what < due.length; what++) Check.due("node(" + i + "," + what + ")", x.node(i, what), due[what]);
    }

    /**
     * "If a side ... has a SIZE above 100, it is LOST in place of that." u makes 39 s, twice, the outer one first
     * (what it is put around is MARKED with FULL marks alone), or the inner one first.
     */
    private static void sideOfAHundredAndOne() {
        String system = "sym a 0, s 1, u 1; rule u(X)->" + tower("s", 39, "X") + ";";
        for (boolean full : new boolean[] {false, true}) {
            for (int side = 0; side < 2; side++) {
                String fits = "u(u(" + tower("s", 21, "a") + "))";
                NarrowHouse x = planted(system, side == 0 ? fits + "=a" : "a=" + fits, full);
                Check.due("expand(100)", x.expand(100), full ? 5 : 4);
                tree(x, 2, full ? 5 : 4, full ? 5 : 4, 0, 0);
                Check.due("SIZE", x.node(3, 4 + side), 100);
                Check.due("SIZE", x.node(3, 5 - side), 1);
                String great = "u(u(" + tower("s", 22, "a") + "))";
                x = planted(system, side == 0 ? great + "=a" : "a=" + great, full);
                Check.due("expand(100)", x.expand(100), 3);
                tree(x, 2, 3, 3, 0, full ? 2 : 1);
            }
        }
    }

    /** "or a VALUE": w takes so many s of X each time, and both sides stay small. */
    private static void valueOfAHundredAndOne() {
        for (boolean full : new boolean[] {false, true}) {
            NarrowHouse x = planted("sym a 0, s 1, w 1; rule w(" + tower("s", 33, "X") + ")->w(X);", "w(X)=a", full);
            Check.due("34, 67, 100", x.expand(100), 4);
            tree(x, 2, 4, 4, 0, 1, 4 + 4 + 3 * (4 + 3) + 34 + 67 + 100, 1);
            Check.due("show(3,3)", Check.show(x, 3, 3), "X=" + tower("s", 99, "_1"));
            x = planted("sym a 0, s 1, w 1; rule w(" + tower("s", 25, "X") + ")->w(X);", "w(X)=a", full);
            Check.due("26, 51, 76, not 101", x.expand(100), 4);
            tree(x, 2, 4, 4, 0, 1, 4 + 4 + 3 * (4 + 3) + 26 + 51 + 76, 1);
            x = planted("sym a 0, s 1, k 2, w 2; rule w(" + tower("s", 25, "X") + ",Y)->w(X,Y);", "w(X,Y)=k(Z,X)", full);
            Check.due("a VALUE that is not the last", x.expand(100), 4);
            tree(x, 2, 4, 4, 0, 1);
        }
    }

    /** "LOST, if one has a SIZE above 100", of NODE 0 and of another one. */
    private static void answerOfAHundredAndOne() {
        String system = "sym a 0, s 1, c 4, k 2, f 1; rule f(X)->X;";
        for (boolean full : new boolean[] {false, true}) {
            for (int ahead = 3; ahead <= 4; ahead++) {
                String great = "k(" + tower("s", ahead, "c(Y,Y,Y,Y)") + "," + tower("s", 23, "a") + ")";
                int found = ahead == 3 ? 1 : 0;
                int room = ahead == 3 ? 2 + 100 + 24 : 0;
                NarrowHouse x = planted(system, "k(X,Y)=" + great, full);
                int sides = 3 + 1 + ahead + 5 + 24;
                tree(x, 1, 1, 0, found, 1 - found, 4 + sides + 2 + room, 2);
                Check.due("its ANSWER", x.node(0, 7), found - 1);
                Check.due("show(4,0)", x.show(4, 0) > 0, found == 1);
                x = planted(system, "f(k(X,Y))=" + great, full);
                tree(x, 1, 1, 0, 0, 0, 4 + sides + 1 + 2, 2);
                Check.due("expand(1)", x.expand(1), 1);
                tree(x, 1, 2, 1, found, 1 - found, (4 + sides + 1 + 2) + (4 + sides + 2) + room, 2);
                Check.due("its ANSWER", x.node(1, 7), found - 1);
            }
        }
    }

    /** What is LOST has no number; what comes behind it is numbered on. */
    private static void lostOnesAreNoNodes() {
        String system = "sym a 0, s 1, u 1, g 2; rule u(X)->" + tower("s", 39, "X") + "; rule u(X)->" + tower("s", 38, "X")
            + "; rule u(X)->" + tower("s", 37, "X") + ";";
        NarrowHouse x = planted(system, "g(u(u(" + tower("s", 20, "a") + ")),u(a))=a", false);
        Check.due("expand(1)", x.expand(1), 1);
        tree(x, 1, 10, 1, 0, 0);
        int[] place = {1, 1, 1, 2, 2, 2, 24, 24, 24};
        for (int k = 0; k < 9; k++) node(x, k + 1, 0, place[k], k % 3, 1);
        // of the first three the u behind makes 63, 62 and 61 signs and those of the RULE's right TERM
        Check.due("expand(3)", x.expand(3), 3);
        tree(x, 1, 16, 4, 0, 3);
        node(x, 10, 1, 62, 2, 2, 100);
        node(x, 11, 2, 61, 1, 2, 100);
        node(x, 12, 2, 61, 2, 2, 99);
        node(x, 13, 3, 60, 0, 2, 100);
        Check.due("expand(1)", x.expand(1), 1);
        tree(x, 1, 18, 5, 0, 7);
        node(x, 16, 4, 1, 2, 2, 100);
        node(x, 17, 4, 62, 2, 2, 100);
    }

    /** "more than ... 1,000 NODES": six children for each b of e(b,b,b). */
    private static void thousandAndOneNodes() {
        NarrowHouse x = planted("sym a 0, b 0, e 3; " + rules(6, "b->a"), "e(b,b,b)=a", false);
        Check.due("expand(1)", x.expand(1), 1);
        tree(x, 1, 1 + 18, 1);
        Check.due("expand(18)", x.expand(18), 18);
        tree(x, 1, 19 + 18 * 12, 19);
        Check.due("expand(100)", x.expand(100), 100);
        tree(x, 1, 235 + 600, 119);
        // 165 are left: 27 NODES with six, and three of the next one's
        Check.due("expand(100)", x.expand(100), 27);
        tree(x, 3, 1000, 146, 0, 0, 9 * 1000, 0);
        node(x, 999, 146, 1, 2, 3, 4, 1, 5, NONE);
        Check.due("NODE 1000", x.node(1000, 0), NONE);
        Check.due("show(2,1000)", x.show(2, 1000), NONE);
        fullStays(x);
    }

    private static void fullStays(NarrowHouse x) {
        int[] before = new int[7];
        for (int what = 0; what < 7; what++) before[what] = x.tree(what);
        for (int n : new int[] {1, 100, 0, 101}) Check.due("expand(" + n + ") then", x.expand(n), n == 0 || n == 101 ? NONE : 0);
        tree(x, before);
    }

    /** "or 300 ANSWERS": each NODE of d(b,b)=X has one, and the 301st NODE finds no room for it. */
    private static void threeHundredAndOneAnswers() {
        NarrowHouse x = planted("sym a 0, b 0, d 2; " + rules(12, "b->a"), "d(b,b)=X", true);
        tree(x, 1, 1, 0, 1, 0, 4 + 3 + 1 + 1 + 2 + 3, 1);
        Check.due("expand(1)", x.expand(1), 1);
        tree(x, 1, 25, 1, 25);
        Check.due("expand(22)", x.expand(22), 22);
        tree(x, 1, 289, 23, 289);
        Check.due("expand(1)", x.expand(1), 0);
        tree(x, 3, 301, 23, 300, 0, 301 * 9 + 300 * 5, 1);
        node(x, 299, 23, 1, 10, 2, 3, 1, 3, 299);
        node(x, 300, 23, 1, 11, 2, 3, 1, 3, NONE);
        Check.due("ANSWER 299", x.answer(299, 0), 299);
        Check.due("it holds", x.answer(299, 1), 1);
        Check.due("ANSWER 300", x.answer(300, 0), NONE);
        Check.due("covers(0,299)", x.covers(0, 299), false);
        Check.due("covers(298,299)", x.covers(298, 299), true);
        Check.due("covers(0,300)", x.covers(0, 300), false);
        Check.due("covers(300,300)", x.covers(300, 300), false);
        Check.due("show(4,300)", x.show(4, 300), NONE);
        Check.due("show(4,299)", Check.show(x, 4, 299), "X=d(a,a)");
        fullStays(x);
    }

    /** "more than 30,000 CELLS": with forty for each NODE the 751st would be too much, with 39 the 770th, with 41 the 732nd. */
    private static void thirtyThousandCells() {
        int[] nodes = {769, 750, 731};
        for (int k = 0; k < 3; k++) {
            NarrowHouse x = planted("sym a 0, s 1, b 0, e 3; " + rules(6, "b->a"), "e(b,b,b)=" + tower("s", 30 + k, "a"), false);
            Check.due("expand(100)", x.expand(100), 100);
            int more = (nodes[k] - 235) / 6 - 81;
            Check.due("expand(100)", x.expand(100), more);
            tree(x, 3, nodes[k], 100 + more, 0, 0, nodes[k] * (39 + k), 0);
            fullStays(x);
        }
    }

    /** NODE 0 alone has too many: 16 children for each of forty f, on the left side first. */
    private static void fullInTheFirstNode() {
        String great = tower("f", 39, "a");
        NarrowHouse x = planted("sym a 0, f 1; " + rules(16, "f(X)->a"), great + "=" + great, false);
        tree(x, 1, 1, 0, 1, 0, 4 + 80 + 2, 0);
        Check.due("expand(100)", x.expand(100), 0);
        tree(x, 3, 1 + 31 * 16 + 2, 0, 1, 0, 29998, 0);
        node(x, 498, 0, 31, 1, 1, 32, 40, 72, NONE);
        fullStays(x);
    }

    /**
     * Both sides and six VALUES have a SIZE of 100 at last: each STEP takes three s of each VARIABLE, and puts two
     * around. The other RULE, of nearly as many signs as one can have, makes one NODE more of each.
     */
    private static void greatestNode() {
        StringBuilder left = new StringBuilder("q(A,B,C,r(D,E,F))");
        String grown = left.toString().replaceAll("([A-F])", "s(s(s($1)))");
        String fixed = tower("s", 24, "a");
        String system = "sym a 0, s 1, r 3, q 4, k 2; rule " + grown + "->s(s(" + left + ")); rule k(X," + fixed + ")->" + tower("s", 39, "a") + ";";
        for (boolean full : new boolean[] {false, true}) {
            NarrowHouse x = planted(system, "k(" + left + "," + fixed + ")=A", full);
            tree(x, 1, 1, 0, 0, 0, 45, 6);
            Check.due("expand(100)", x.expand(100), 68);
            // 45 + 23 n and 51 + 21 n for n from 0 to 33; fourteen ANSWERS of 47 + 15 n
            tree(x, 2, 68, 68, 14, 1, 14433 + 13515 + 2023, 6);
            node(x, 66, 64, 65, 0, 33, 100, 100, full ? 94 + 99 : 1 + 66 + 2 + 25, NONE);
            node(x, 67, 66, 0, 1, 34, 40, 100, full ? 139 : 40, NONE);
            Check.due("show(2,66)", x.show(2, 66), 2 + 3 * 66 + 23 + 1 + fixed.length() + 1 + 1 + 3 * 99 + 2);
            Check.due("OUT", Check.out(x).startsWith("k(" + tower("s", 66, "q(_1,_2,_3,r(_4,_5,_6))") + "," + fixed + ")=s(s("), true);
            Check.due("show(2,67)", Check.show(x, 2, 67), tower("s", 39, "a") + "=" + tower("s", 99, "_1"));
            Check.due("show(3,67)", x.show(3, 67), 6 * (2 + 3 * 99 + 2) + 5);
            Check.due("OUT", Check.out(x).startsWith("A=" + tower("s", 99, "_1") + ",B=" + tower("s", 99, "_2") + ",C=" + tower("s", 99, "_3")), true);
        }
    }

    /** A GOAL with a FAULT leaves the TREE FULL, another one makes a new TREE. */
    private static void fullTreeStays() {
        NarrowHouse x = planted("sym a 0, b 0, d 2; " + rules(12, "b->a"), "d(b,b)=X", true);
        x.expand(100);
        Check.due("FULL", x.tree(0), 3);
        Check.due("a FAULT", Check.goal(x, "d(b,b)=q", true), 5);
        tree(x, 3, 301, 23, 300);
        Check.due("goal", Check.goal(x, "d(a,b)=X", false), 0);
        tree(x, 1, 1, 0, 1);
        Check.due("expand(100)", x.expand(100), 13);
        tree(x, 2, 13, 13, 13);
        Check.due("goal", Check.goal(x, "d(b,b)=X", false), 0);
        Check.due("expand(100)", x.expand(100), 23);
        Check.due("FULL again", x.tree(0), 3);
        Check.due("system", Check.system(x, "sym a 0;"), 0);
        tree(x, 0, 0, 0, 0, 0, 0, 0);
        Check.due("no TREE", x.expand(1), NONE);
    }

    /** "At most n NODES (1 .. 100)". */
    private static void expandOneToAHundred() {
        NarrowHouse x = planted("sym a 0, s 1, w 1; rule w(s(X))->w(X);", "w(X)=a", false);
        for (int n : new int[] {0, -1, 101, 102, 1000, Integer.MAX_VALUE, Integer.MIN_VALUE}) {
            Check.due("expand(" + n + ")", x.expand(n), NONE);
            tree(x, 1, 1, 0);
        }
        Check.due("expand(1)", x.expand(1), 1);
        tree(x, 1, 2, 1);
        Check.due("expand(2)", x.expand(2), 2);
        tree(x, 1, 4, 3);
        // X gets s of s of ...: ninety-nine of them, and the next one is LOST
        Check.due("expand(100)", x.expand(100), 97);
        tree(x, 2, 100, 100, 0, 1);
        NarrowHouse y = planted("sym a 0, b 0, e 3; " + rules(4, "b->a"), "e(b,b,b)=a", false);
        Check.due("expand(99)", y.expand(99), 99);
        Check.due("expand(100)", y.expand(100), 100);
        Check.due("EXPANDED", y.tree(2), 199);
        Check.due("expand(100)", y.expand(100), 100);
        Check.due("expand(100)", y.expand(100), 100);
        Check.due("the last ones", y.expand(100), 94);
        tree(y, 2, 493, 493);
        Check.due("none is left", y.expand(100), 0);
    }

    /** As many as wait, one less, one more. */
    private static void closedWithTheLastNode() {
        for (int n = 4; n <= 6; n++) {
            NarrowHouse x = planted("sym a 0, b 0, d 2; rule b->a;", "d(b,b)=a", false);
            Check.due("expand(" + n + ")", x.expand(n), Math.min(n, 5));
            tree(x, n < 5 ? 1 : 2, 5, Math.min(n, 5));
            Check.due("expand(1) then", x.expand(1), n < 5 ? 1 : 0);
            tree(x, 2, 5, 5);
        }
        NarrowHouse x = planted("sym a 0;", "a=X", false);
        tree(x, 1, 1, 0, 1);
        Check.due("no RULE", x.expand(1), 1);
        tree(x, 2, 1, 1, 1);
        x = planted("sym a 0;", "X=X", true);
        tree(x, 1, 1, 0, 1, 0, 4 + 2 + 1 + 2 + 1, 1);
        Check.due("no SYMBOL", x.expand(100), 1);
        tree(x, 2, 1, 1, 1);
    }

    /** "1 OPEN, 2 CLOSED, 3 FULL (0 without one)", "0 without one; NONE for others". */
    private static void openClosedFull() {
        NarrowHouse x = new NarrowHouse();
        tree(x, 0, 0, 0, 0, 0, 0, 0, NONE);
        Check.due("tree(-1)", x.tree(-1), NONE);
        Check.due("system", Check.system(x, "sym a 0, b 0; rule b->a;"), 0);
        tree(x, 0, 0, 0, 0, 0, 0, 0, NONE);
        Check.due("expand(0)", x.expand(0), NONE);
        Check.due("expand(1)", x.expand(1), NONE);
        Check.due("goal", Check.goal(x, "b=q", false), 5);
        tree(x, 0, 0, 0, 0, 0, 0, 0, NONE);
        Check.due("goal", Check.goal(x, "b=X", false), 0);
        tree(x, 1, 1, 0, 1, 0, 4 + 3 + 3, 1, NONE);
        for (int what : new int[] {-1, Integer.MIN_VALUE, 8, Integer.MAX_VALUE}) Check.due("tree(" + what + ")", x.tree(what), NONE);
    }

    private static void nodeZeroCameOfNone() {
        NarrowHouse x = planted("sym a 0, b 0; rule b->a;", "b=X", true);
        node(x, 0, NONE, NONE, NONE, 0, 1, 1, 1, 0);
        Check.due("expand(2)", x.expand(2), 2);
        node(x, 0, NONE, NONE, NONE, 0, 1, 1, 1, 0);
        node(x, 1, 0, 0, 0, 1, 1, 1, 1, 1);
        x = planted("sym a 0;", "X=Y", true);
        node(x, 0, NONE, NONE, NONE, 0, 1, 1, 0, 0);
    }

    /** "the PLACE there (of the right side's: behind all of the left one's)". */
    private static void placesOfTheRightSide() {
        NarrowHouse x = planted("sym a 0, b 0, d 2; rule b->a;", "d(b,X)=d(Y,b)", false);
        Check.due("expand(1)", x.expand(1), 1);
        node(x, 1, 0, 1, 0, 1, 3, 3, 4);
        node(x, 2, 0, 5, 0, 1, 3, 3, 4);
        x = planted("sym a 0, b 0, d 2; rule b->a;", "X=b", false);
        Check.due("expand(1)", x.expand(1), 1);
        node(x, 1, 0, 1, 0, 1, 1, 1, 1);
        x = planted("sym a 0, b 0, d 2; rule b->a;", "b=b", false);
        Check.due("expand(1)", x.expand(1), 1);
        node(x, 1, 0, 0);
        node(x, 2, 0, 1);
        // PLACES are those of the NODE that it came of, not of the GOAL
        x = planted("sym a 0, b 0, s 1, f 1; rule f(X)->s(s(X)); rule b->a;", "f(a)=b", false);
        Check.due("expand(2)", x.expand(2), 2);
        node(x, 1, 0, 0, 0, 1, 3, 1);
        node(x, 2, 0, 2, 1, 1, 2, 1);
        node(x, 3, 1, 3, 1, 2, 3, 1);
    }

    /** "those that come for a VARIABLE are not (BASIC), or all are (FULL)". */
    private static void marks() {
        String system = "sym a 0, s 1, g 2, f 1; rule f(s(X))->g(X,s(X));";
        for (boolean full : new boolean[] {false, true}) {
            // s(a) comes for X, and is there twice; the a at the end was there ahead
            NarrowHouse x = planted(system, "f(s(s(a)))=a", full);
            Check.due("MARKED", x.node(0, 6), 5);
            Check.due("expand(1)", x.expand(1), 1);
            Check.due("show(2,1)", Check.show(x, 2, 1), "g(s(a),s(s(a)))=a");
            Check.due("MARKED", x.node(1, 6), full ? 7 : 3);
            // X of the GOAL becomes s(_1), at the other side too
            x = planted(system, "g(f(X),X)=g(X,a)", full);
            Check.due("MARKED", x.node(0, 6), 4);
            Check.due("expand(1)", x.expand(1), 1);
            Check.due("show(2,1)", Check.show(x, 2, 1), "g(g(_1,s(_1)),s(_1))=g(s(_1),a)");
            Check.due("MARKED", x.node(1, 6), full ? 7 : 5);
        }
    }

    private static void variablesOfTheGoal() {
        String[] goals = {"a=a", "A=a", "A=B", "k(A,B,C,A)=a", "k(A,B,C,D)=A", "k(A,B,C,D)=E", "k(A,B,C,D)=k(E,F,A,F)"};
        for (int count = 0; count < goals.length; count++) {
            NarrowHouse x = planted("sym a 0, k 4;", goals[count], false);
            Check.due("VARIABLES of " + goals[count], x.tree(6), count);
        }
        NarrowHouse x = planted("sym a 0, k 4;", goals[6], false);
        Check.due("a seventh", Check.goal(x, "k(A,B,C,D)=k(E,F,G,A)", false), 3);
        Check.due("VARIABLES stay", x.tree(6), 6);
        Check.due("unify has its own", Check.unify(x, "X=a"), 1);
        Check.due("normal has its own", Check.normal(x, "X"), 0);
        Check.due("VARIABLES stay", x.tree(6), 6);
        Check.due("show(3,0)", Check.show(x, 3, 0), "A=A,B=B,C=C,D=D,E=E,F=F");
        Check.due("show(4,0)", Check.show(x, 4, 0), "A=A,B=B,C=A,D=B,E=A,F=B");
    }

    private static void nodesAndAnswersOfAny() {
        NarrowHouse x = planted("sym a 0, b 0; rule b->a;", "b=X", true);
        int[] wild = {Integer.MIN_VALUE, -2, -1, 1, 2, 300, 1000, 1 << 28, 1 << 29, 1 << 30, Integer.MAX_VALUE};
        for (int i : wild) {
            for (int what = 0; what < 8; what++) Check.due("node(" + i + "," + what + ")", x.node(i, what), NONE);
            for (int what = 0; what < 2; what++) Check.due("answer(" + i + "," + what + ")", x.answer(i, what), NONE);
            for (int what = 2; what < 5; what++) Check.due("show(" + what + "," + i + ")", x.show(what, i), NONE);
            Check.due("covers(" + i + ",0)", x.covers(i, 0), false);
            Check.due("covers(0," + i + ")", x.covers(0, i), false);
        }
        for (int what : new int[] {Integer.MIN_VALUE, -1, 8, 9, Integer.MAX_VALUE}) Check.due("node(0," + what + ")", x.node(0, what), NONE);
        for (int what : new int[] {Integer.MIN_VALUE, -1, 2, 3, Integer.MAX_VALUE}) Check.due("answer(0," + what + ")", x.answer(0, what), NONE);
        Check.due("covers(0,0)", x.covers(0, 0), true);
    }

    /** "2 if one is above 200 to begin with": Y stands seventeen times in one side, and becomes a TERM of eleven signs. */
    private static void answerAboveTwoHundred() {
        String four = "c(Y,Y,Y,Y)";
        for (int ahead = 3; ahead <= 4; ahead++) {
            // 1 + 5 + 17 * 11 signs, and the s
            String great = "f(" + tower("s", ahead + 4, "c(" + four + "," + four + "," + four + "," + four + ")") + ",Y)";
            String small = "g(a," + tower("s", 10, "a") + ")";
            String system = "sym a 0, s 1, c 4, g 2, f 2; rule f(X,Y)->g(a,Y);";
            for (int side = 0; side < 2; side++) {
                NarrowHouse x = planted(system, side == 0 ? great + "=" + small : small + "=" + great, false);
                Check.due("expand(1)", x.expand(1), 1);
                Check.due("ANSWERS", x.tree(3), 1);
                Check.due("NODE", x.answer(0, 0), 1);
                Check.due("SIZE " + (197 + ahead), x.answer(0, 1), ahead == 3 ? 1 : 2);
                Check.due("OUT is not touched", x.count(5), 0);
            }
        }
    }

    /** "TIRED or GREAT": of a thousand STEPS, of 1,001; of 200 signs behind a STEP, of 201. */
    private static void answerTiredOrGreat() {
        String text = "z";
        for (int n : new int[] {1, 2, 3, 6, 8}) text = "v(" + tower("s", n, "z") + "," + text + ")";
        String system = "sym z 0, s 1, w 1, v 2, t 0, f 1; rule w(Y)->Y; rule v(z,Y)->w(Y); rule v(s(X),Y)->v(X,v(X,Y)); rule t->" + text
            + "; rule f(X)->z;";
        String[] inner = {"w(t)", "w(w(t))"};
        for (int k = 0; k < 2; k++) {
            NarrowHouse x = planted(system, "f(" + inner[k] + ")=z", false);
            x.expand(1);
            answerOf(x, "f(X)", k == 0 ? 1 : 2);
            x = planted(system, "z=f(" + inner[k] + ")", false);
            x.expand(1);
            answerOf(x, "f(X)", k == 0 ? 1 : 2);
            x = planted(system, "s(" + inner[k] + ")=X", true);
            Check.due("both sides, a thousand STEPS each", x.answer(0, 1), 1);
            x = planted(system, "s(w(" + inner[k] + "))=X", true);
            Check.due("both sides", x.answer(0, 1), k == 0 ? 1 : 2);
        }
        String sixteen = "c(c(X,X,X,X),c(X,X,X,X),c(X,X,X,X),c(X,X,X,X))";
        for (int ahead = 3; ahead <= 4; ahead++) {
            String up = "sym a 0, s 1, c 4, u 1, f 1; rule u(X)->" + tower("s", ahead - 1, sixteen) + "; rule f(X)->a;";
            NarrowHouse x = planted(up, "f(u(" + tower("s", 11, "a") + "))=a", false);
            x.expand(1);
            answerOf(x, "f(X)", ahead == 3 ? 1 : 2);
            x = planted(up, "a=f(u(" + tower("s", 11, "a") + "))", false);
            x.expand(1);
            answerOf(x, "f(X)", ahead == 3 ? 1 : 2);
        }
    }

    /** The one ANSWER that is there comes of f at the outside. */
    private static void answerOf(NarrowHouse x, String rule, int holds) {
        Check.due("ANSWERS by " + rule, x.tree(3), 1);
        Check.due("answer(0,1)", x.answer(0, 1), holds);
    }

    /** VARIABLES of both ANSWERS may bear one name, and are others all the same. */
    private static void coversWithSharedVariables() {
        String system = "sym a 0, s 1, d 2; rule d(X,Y)->a; rule d(X,s(Y))->a; rule d(s(X),Y)->a; rule d(X,s(X))->a; rule d(s(X),X)->a;";
        NarrowHouse x = planted(system, "d(P,Q)=a", false);
        Check.due("expand(1)", x.expand(1), 1);
        Check.due("ANSWERS", x.tree(3), 5);
        String[] shown = {"P=P,Q=Q", "P=P,Q=s(_1)", "P=s(_1),Q=Q", "P=P,Q=s(P)", "P=s(Q),Q=Q"};
        String[] covered = {"11111", "01010", "00101", "00010", "00001"};
        for (int a = 0; a < 5; a++) {
            Check.due("show(4," + a + ")", Check.show(x, 4, a), shown[a]);
            for (int b = 0; b < 5; b++) Check.due("covers(" + a + "," + b + ")", x.covers(a, b), covered[a].charAt(b) == '1');
        }
    }
}
