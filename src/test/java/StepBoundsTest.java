/** The bounds that the words on STEPS name, and promises 5 to 8. */
final class StepBoundsTest {
    private static final int NONE = NarrowHouse.NONE;
    private static final int GREAT = -2;
    private static final int TIRED = -3;

    public static void main(String[] args) {
        thousandAndOneSteps();
        greatAtTheLastStep();
        greatBehindAStep();
        pairsAboveTwoHundred();
        pairsGreatBehindAStep();
        pairsTired();
        rightSideAlone();
        sameTermsOfTwoHundredAndOne();
        exactlyTwoHundredPairs();
        keptOnesAlone();
        placeZero();
        sixteenVariables();
        valueOfAHundredAndOne();
        countsAndPairsOfAny();
        Check.end();
    }

    private static String tower(String sign, int count, String end) {
        StringBuilder text = new StringBuilder();
        for (int k = 0; k < count; k++) text.append(sign).append("(");
        text.append(end);
        for (int k = 0; k < count; k++) text.append(")");
        return text.toString();
    }

    /** w makes one STEP, t 998, and e(X,Y) becomes nine c with 28 times Y. */
    private static String steps() {
        String fourth = "c(Y,Y,Y,Y)";
        String whole = "c(c(Z,Z,Z,Y),c(Z,Z,Z,Y),Y,Y)";
        return "sym z 0, s 1, c 4, w 1, v 2, e 2, t 0, k 1; "
            + "rule w(Y)->Y; rule v(z,Y)->w(Y); rule v(s(X),Y)->v(X,v(X,Y)); "
            + "rule e(X,Y)->" + whole.replace("Z", fourth) + "; rule t->" + nineHundredNinetySeven() + "; ";
    }

    /** v with n s ahead makes 3 * 2^n - 1 STEPS: 5 + 11 + 23 + 191 + 767. */
    private static String nineHundredNinetySeven() {
        String text = "z";
        for (int n : new int[] {1, 2, 3, 6, 8}) text = "v(" + tower("s", n, "z") + "," + text + ")";
        return text;
    }

    private static void normal(NarrowHouse x, String text, int steps, String form) {
        Check.due("normal(" + text + ")", Check.normal(x, text), steps);
        Check.due("form of " + text, Check.out(x), form);
    }

    /** "TIRED, if a 1,001st STEP would be done." */
    private static void thousandAndOneSteps() {
        NarrowHouse x = Check.house(steps());
        normal(x, nineHundredNinetySeven(), 997, "z");
        normal(x, "t", 998, "z");
        normal(x, "w(t)", 999, "z");
        normal(x, "w(w(t))", 1000, "z");
        normal(x, "s(w(w(t)))", 1000, "s(z)");
        normal(x, "w(w(w(t)))", TIRED, "s(z)");
        normal(x, "c(t,w(z),w(z),z)", 1000, "c(z,z,z,z)");
        normal(x, "c(t,w(z),w(z),w(z))", TIRED, "c(z,z,z,z)");
        normal(x, "c(t,t,z,z)", TIRED, "c(z,z,z,z)");
        Check.due("no FAULT", x.fault(0), 0);
        Check.due("no FAULT", x.fault(1), NONE);
        normal(x, "w(z)", 1, "z");
    }

    /** "GREAT, as soon as the whole TERM has a SIZE above 200 behind a STEP": the thousandth one is done still, the next is not. */
    private static void greatAtTheLastStep() {
        NarrowHouse x = Check.house(steps());
        String seven = tower("s", 6, "z");
        normal(x, "z", 0, "z");
        normal(x, "e(z," + seven + ")", GREAT, "z");
        normal(x, "e(w(t)," + seven + ")", GREAT, "z");
        normal(x, "e(w(w(t))," + seven + ")", TIRED, "z");
        normal(x, "e(w(w(t)),z)", TIRED, "z");
        Check.due("1,000 with e", Check.normal(x, "e(w(t),z)"), 1000);
        Check.due("the form of that", Check.out(x).length() > 37, true);
    }

    /** R(X) has sixteen X and five c and so many s ahead of them. */
    private static String sixteen(int ahead) {
        return tower("s", ahead, "c(c(X,X,X,X),c(X,X,X,X),c(X,X,X,X),c(X,X,X,X))");
    }

    private static void greatBehindAStep() {
        for (int ahead = 2; ahead <= 4; ahead++) {
            NarrowHouse x = Check.house("sym a 0, s 1, c 4, u 1, k 1; rule u(X)->" + sixteen(ahead) + "; rule k(X)->a;");
            String twelve = tower("s", 11, "a");
            int size = 16 * 12 + 5 + ahead;
            Check.due("SIZE " + size, Check.normal(x, "u(" + twelve + ")"), size > 200 ? GREAT : 1);
            Check.due("SIZE " + (size + 1) + " with k", Check.normal(x, "k(u(" + twelve + "))"), size + 1 > 200 ? GREAT : 2);
            Check.due("a VARIABLE counts too", Check.normal(x, "u(" + tower("s", 11, "X") + ")"), size > 200 ? GREAT : 1);
            Check.due("ARGUMENTS behind count too", Check.normal(x, "c(k(a),k(a),k(u(" + tower("s", 10, "a") + ")),a)"), 4);
        }
    }

    private static void pair(NarrowHouse x, int k, int i, int p, int j, int joins) {
        Check.due("RULE i of " + k, x.pair(k, 0), i);
        Check.due("PLACE of " + k, x.pair(k, 1), p);
        Check.due("RULE j of " + k, x.pair(k, 2), j);
        Check.due("joins of " + k, x.pair(k, 3), joins);
    }

    private static void totals(NarrowHouse x, int pairs, int join, int open) {
        Check.due("PAIRS", x.count(2), pairs);
        Check.due("JOIN", x.count(3), join);
        Check.due("OPEN", x.count(4), open);
    }

    /** "above 200 to begin with", and of show() "NONE if one is above 200". */
    private static void pairsAboveTwoHundred() {
        String twelve = tower("s", 11, "a");
        for (int ahead = 3; ahead <= 4; ahead++) {
            boolean open = ahead == 4;
            NarrowHouse x = Check.house("sym a 0, s 1, c 4, w 1; rule w(X)->" + sixteen(ahead) + "; rule w(" + twelve + ")->a;");
            totals(x, 2, 0, open ? 2 : 0);
            pair(x, 0, 0, 0, 1, open ? 2 : 0);
            pair(x, 1, 1, 0, 0, open ? 2 : 0);
            String great = sixteen(ahead).replace("X", twelve);
            Check.due("great on the left", Check.show(x, 1, 0), open ? "NONE" : great + "=a");
            Check.due("show(0,1)", Check.show(x, 0, 1), "w(" + twelve + ")->a");
            Check.due("great on the right", Check.show(x, 1, 1), open ? "NONE" : "a=" + great);
            Check.due("OUT", Check.out(x), open ? "w(" + twelve + ")->a" : "a=" + great);
        }
    }

    private static void pairsGreatBehindAStep() {
        String twelve = tower("s", 11, "a");
        for (int ahead = 3; ahead <= 4; ahead++) {
            int joins = ahead == 4 ? 2 : 0;
            NarrowHouse x = Check.house("sym a 0, s 1, c 4, e 1, w 1; rule e(X)->" + sixteen(ahead)
                + "; rule w(X)->e(X); rule w(" + twelve + ")->a;");
            totals(x, 2, 0, joins == 2 ? 2 : 0);
            pair(x, 0, 1, 0, 2, joins);
            pair(x, 1, 2, 0, 1, joins);
            Check.due("ahead of any STEP", Check.show(x, 1, 0), "e(" + twelve + ")=a");
            Check.due("ahead of any STEP", Check.show(x, 1, 1), "a=e(" + twelve + ")");
        }
    }

    /** Each side has its own thousand STEPS. */
    private static void pairsTired() {
        String[] left = {"w(t)", "w(w(t))", "w(w(w(t)))"};
        for (int n = 0; n < 3; n++) {
            NarrowHouse x = Check.house(steps() + "rule k(X)->" + left[n] + "; rule k(z)->z;");
            totals(x, 2, n == 2 ? 0 : 2, n == 2 ? 2 : 0);
            pair(x, 0, 5, 0, 6, n == 2 ? 2 : 1);
            pair(x, 1, 6, 0, 5, n == 2 ? 2 : 1);
            Check.due("shown all the same", Check.show(x, 1, 0), left[n] + "=z");
        }
        NarrowHouse x = Check.house(steps() + "rule k(X)->w(w(t)); rule k(z)->w(t); rule k(s(z))->s(w(t));");
        totals(x, 4, 2, 0);
        pair(x, 0, 5, 0, 6, 1);
        pair(x, 1, 5, 0, 7, 0);
        pair(x, 2, 6, 0, 5, 1);
        pair(x, 3, 7, 0, 5, 0);
    }

    /** The right side of a PAIR is i's left TERM, with j's right one at the PLACE. */
    private static void rightSideAlone() {
        String twelve = tower("s", 11, "a");
        for (int ahead = 2; ahead <= 3; ahead++) {
            NarrowHouse x = Check.house("sym a 0, s 1, c 4, e 1, k 1; rule k(e(" + twelve + "))->a; rule e(X)->" + sixteen(ahead) + "; ");
            totals(x, 1, 0, ahead == 3 ? 1 : 0);
            pair(x, 0, 0, 1, 1, ahead == 3 ? 2 : 0);
            Check.due("show(1,0)", Check.show(x, 1, 0), ahead == 3 ? "NONE" : "a=k(" + sixteen(2).replace("X", twelve) + ")");
        }
    }

    /** Both sides are the same one, but too great to be looked at. */
    private static void sameTermsOfTwoHundredAndOne() {
        String twelve = tower("s", 11, "a");
        for (int ahead = 3; ahead <= 4; ahead++) {
            NarrowHouse x = Check.house("sym a 0, s 1, c 4, w 1; rule w(X)->" + sixteen(ahead) + "; rule w(X)->" + sixteen(ahead)
                + "; rule w(" + twelve + ")->a;");
            totals(x, 6, 2, ahead == 4 ? 4 : 0);
            pair(x, 0, 0, 0, 1, 1);
            pair(x, 1, 0, 0, 2, ahead == 4 ? 2 : 0);
            NarrowHouse y = Check.house("sym a 0, s 1, c 4, f 2, g 2; rule g(X,a)->" + sixteen(ahead) + "; rule g(" + twelve + ",X)->"
                + sixteen(ahead).replace("X", "a") + ";");
            totals(y, 2, 0, ahead == 4 ? 2 : 0);
        }
    }

    /** "The first 200 are kept and looked at so, more are counted alone." */
    private static void exactlyTwoHundredPairs() {
        for (int more = 0; more < 2; more++) {
            StringBuilder text = new StringBuilder("sym a 0, f 2, g 1, k 1; ");
            for (int k = 0; k < 14; k++) text.append("rule f(X,Y)->a; ");
            text.append("rule g(f(X,Y))->a; rule ").append(tower("k", 5 + more, "X")).append("->a;");
            NarrowHouse x = Check.house(text.toString());
            // 14 * 13 at the f, 14 of g, and the last RULE with itself
            totals(x, 200 + more, 182, 0);
            pair(x, 181, 13, 0, 12, 1);
            pair(x, 182, 14, 1, 0, 0);
            pair(x, 195, 14, 1, 13, 0);
            pair(x, 196, 15, 1, 15, 0);
            pair(x, 199, 15, 4, 15, 0);
            pair(x, 200, NONE, NONE, NONE, NONE);
            Check.due("show(1,199)", Check.show(x, 1, 199), "a=k(k(k(k(a))))");
            Check.due("show(1,200)", x.show(1, 200), NONE);
        }
    }

    /** 210 PAIRS; those of the last RULE are GREAT: fourteen with it behind others, and four of the fourteen that are its own. */
    private static void keptOnesAlone() {
        StringBuilder text = new StringBuilder("sym a 0, c 2, d 1, f 2; rule d(X)->c(X,X); ");
        for (int k = 0; k < 14; k++) text.append("rule f(X,Y)->a; ");
        NarrowHouse x = Check.house(text + "rule f(X,Y)->" + tower("d", 7, "X") + ";");
        totals(x, 210, 182, 18);
        pair(x, 199, 15, 0, 4, 2);
        pair(x, 200, NONE, NONE, NONE, NONE);
        pair(x, 209, NONE, NONE, NONE, NONE);
        // six doublings have a SIZE of 127
        NarrowHouse y = Check.house(text + "rule f(X,Y)->" + tower("d", 6, "X") + ";");
        totals(y, 210, 182, 0);
        NarrowHouse z = Check.house(text + "rule f(X,Y)->a;");
        totals(z, 210, 200, 0);
    }

    /** "not j = i at PLACE 0": another RULE that reads the same is another one. */
    private static void placeZero() {
        totals(Check.house("sym a 0, f 1; rule f(X)->a;"), 0, 0, 0);
        totals(Check.house("sym a 0, f 1; rule f(X)->a; rule f(X)->a;"), 2, 2, 0);
        totals(Check.house("sym a 0, f 1; rule f(f(X))->a;"), 1, 0, 0);
        totals(Check.house("sym a 0, b 0; rule b->a;"), 0, 0, 0);
        totals(Check.house("sym a 0, b 0; rule b->a; rule b->a; rule b->a;"), 6, 6, 0);
        totals(Check.house("sym a 0;"), 0, 0, 0);
        totals(new NarrowHouse(), 0, 0, 0);
    }

    /** Eight VARIABLES of each RULE. */
    private static void sixteenVariables() {
        NarrowHouse x = Check.house("sym k 4, p 2; rule p(k(A,B,C,D),k(E,F,G,H))->k(H,G,F,E); "
            + "rule p(k(A,B,C,D),k(E,k(F,G,H,H),H,H))->k(A,B,C,F);");
        totals(x, 2, 0, 0);
        Check.due("show(1,0)", Check.show(x, 1, 0), "k(_1,_1,k(_2,_3,_1,_1),_4)=k(_5,_6,_7,_2)");
        NarrowHouse y = Check.house("sym a 0, k 4, f 1, p 4; rule p(f(k(A,B,C,D)),E,F,k(G,H,A,A))->E; "
            + "rule f(k(k(A,B,C,D),k(E,F,G,H),k(H,G,F,E),k(D,C,B,A)))->a;");
        totals(y, 1, 0, 0);
        Check.due("show(1,0)", Check.show(y, 1, 0), "_1=p(a,_1,_2,k(_3,_4,k(_5,_6,_7,_8),k(_5,_6,_7,_8)))");
        NarrowHouse z = Check.house("sym a 0, k 4, f 1, p 4; rule p(f(A),B,C,k(D,E,k(F,G,A,A),H))->k(A,B,k(C,D,E,F),k(G,H,H,H)); "
            + "rule f(k(k(A,B,C,D),E,F,k(G,H,A,A)))->k(H,G,F,E);");
        Check.due("show(1,0)", Check.show(z, 1, 0), "k(k(k(_1,_2,_3,_4),_5,_6,k(_7,_8,_1,_1)),_9,k(_10,_11,_12,_13),k(_14,_15,_15,_15))"
            + "=p(k(_8,_7,_6,_5),_9,_10,k(_11,_12,k(_13,_14,k(k(_1,_2,_3,_4),_5,_6,k(_7,_8,_1,_1)),k(k(_1,_2,_3,_4),_5,_6,k(_7,_8,_1,_1))),_15))");
    }

    /** "2 if one would have a SIZE above 100", each of the VARIABLES. */
    private static void valueOfAHundredAndOne() {
        NarrowHouse x = Check.house("sym a 0, s 1, c 4, k 3;");
        String y = tower("s", 23, "a");
        for (int ahead = 3; ahead <= 4; ahead++) {
            String great = tower("s", ahead, "c(Y,Y,Y,Y)");
            String value = great.replace("Y", y);
            String[] goals = {"k(X,Y,Z)=k(" + great + "," + y + ",W)", "k(Z,Y,X)=k(W," + y + "," + great + ")", "k(Y,Z,W)=k(" + y + ",W," + great + ")"};
            String[] outs = {"X=" + value + ",Y=" + y + ",Z=Z,W=Z", "Z=Z,Y=" + y + ",X=" + value + ",W=Z",
                "Y=" + y + ",Z=" + value + ",W=" + value};
            for (int k = 0; k < 3; k++) {
                Check.due("unify", Check.unify(x, "X=a"), 1);
                Check.due("unify(" + goals[k] + ")", Check.unify(x, goals[k]), ahead == 3 ? 1 : 2);
                Check.due("count(5)", x.count(5), ahead == 3 ? outs[k].length() : 3);
                Check.due("OUT", Check.out(x), ahead == 3 ? outs[k] : "X=a");
                Check.due("no FAULT", x.fault(0), 0);
            }
        }
        // the sides themselves may be as great as they will: 4 + 13 * 21
        String sides = "c(c(Y,Y,Y,Y),c(Y,Y,Y,Y),c(Y,Y,Y,Y),Y)";
        String twenty = tower("s", 20, "a");
        Check.due("sides above 200", Check.unify(x, "k(" + sides + ",Y,a)=k(" + sides + "," + twenty + ",a)"), 1);
        Check.due("OUT", Check.out(x), "Y=" + twenty);
        Check.due("but no VALUE", Check.unify(x, "k(" + sides + ",Y,a)=k(Z," + twenty + ",a)"), 2);
    }

    /** "NONE for others." */
    private static void countsAndPairsOfAny() {
        NarrowHouse x = Check.house("sym a 0, f 1; rule f(f(X))->X;");
        int[] wild = {Integer.MIN_VALUE, -2, -1, 6, 7, 100, Integer.MAX_VALUE};
        for (int what : wild) Check.due("count(" + what + ")", x.count(what), NONE);
        for (int what : new int[] {Integer.MIN_VALUE, -1, 4, 5, Integer.MAX_VALUE}) Check.due("pair(0," + what + ")", x.pair(0, what), NONE);
        for (int k : new int[] {Integer.MIN_VALUE, -1, 1, 2, 199, 200, 1 << 29, 1 << 30, Integer.MAX_VALUE}) {
            for (int what = 0; what < 4; what++) Check.due("pair(" + k + "," + what + ")", x.pair(k, what), NONE);
            Check.due("show(1," + k + ")", x.show(1, k), NONE);
            Check.due("show(0," + k + ")", x.show(0, k), NONE);
        }
        for (int what : new int[] {Integer.MIN_VALUE, -1, 2, Integer.MAX_VALUE}) Check.due("fault(" + what + ")", x.fault(what), NONE);
    }
}
