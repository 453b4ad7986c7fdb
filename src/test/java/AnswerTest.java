/** Promises 13 and 14: ANSWERS, and which of them cover which. */
final class AnswerTest {
    private static final int NONE = NarrowHouse.NONE;
    private static final String PLUS = "sym z 0, s 1, plus 2; rule plus(z,Y)->Y; rule plus(s(X),Y)->s(plus(X,Y));";

    public static void main(String[] args) {
        answersInOrder();
        answersThatDoNotHold();
        answersLeftOpen();
        answersTooGreatToBeginWith();
        oneSideTooGreat();
        covering();
        coveringWithOneVariableTwice();
        noAnswers();
        Check.end();
    }

    private static NarrowHouse grown(String system, String goal, boolean full, int by) {
        NarrowHouse x = Check.house(system);
        Check.due("goal(" + goal + ")", Check.goal(x, goal, full), 0);
        x.expand(by);
        return x;
    }

    private static void answer(NarrowHouse x, int k, int node, int holds, String values) {
        Check.due("NODE of ANSWER " + k, x.answer(k, 0), node);
        Check.due("ANSWER of NODE " + node, x.node(node, 7), k);
        Check.due("answer(" + k + ",1)", x.answer(k, 1), holds);
        Check.due("VALUES of ANSWER " + k, Check.show(x, 4, k), values);
    }

    private static void answersInOrder() {
        NarrowHouse x = grown(PLUS, "plus(X,Y)=s(s(z))", false, 20);
        Check.due("ANSWERS", x.tree(3), 3);
        answer(x, 0, 1, 1, "X=z,Y=s(s(z))");
        answer(x, 1, 3, 1, "X=s(z),Y=s(z)");
        answer(x, 2, 5, 1, "X=s(s(z)),Y=z");
        Check.due("show stays with NODES", Check.show(x, 2, 5), "s(s(Y))=s(s(z))");
        NarrowHouse y = grown(PLUS, "plus(X,Y)=plus(Y,X)", false, 1);
        answer(y, 0, 0, 1, "X=X,Y=X");
        NarrowHouse g = grown(PLUS, "s(z)=s(z)", false, 1);
        answer(g, 0, 0, 1, "");
    }

    private static void answersThatDoNotHold() {
        // by narrowing f(a) is a too, but its NORMAL FORM is b
        NarrowHouse x = grown("sym a 0, b 0, f 1; rule f(a)->b; rule f(X)->a;", "f(a)=a", false, 9);
        Check.due("ANSWERS", x.tree(3), 1);
        answer(x, 0, 2, 0, "");
        NarrowHouse y = grown("sym a 0, b 0, f 1; rule f(a)->b; rule f(X)->a;", "f(X)=X", true, 9);
        Check.due("ANSWERS", y.tree(3), 1);
        answer(y, 0, 2, 0, "X=a");
    }

    private static void answersLeftOpen() {
        String great = "sym a 0, c 2, d 1; rule d(X)->c(X,X);";
        NarrowHouse x = grown(great, "d(d(d(d(d(d(d(X)))))))=d(d(d(d(d(d(d(a)))))))", false, 1);
        answer(x, 0, 0, 2, "X=a");
        x = grown(great, "c(X,d(d(d(d(d(d(a)))))))=c(d(a),d(d(d(d(d(d(Y)))))))", false, 1);
        answer(x, 0, 0, 1, "X=d(a),Y=a");
        String tired = "sym z 0, s 1, v 2; rule v(z,Y)->Y; rule v(s(X),Y)->v(X,v(X,Y));";
        x = grown(tired, "X=v(s(s(s(s(s(s(s(s(s(z))))))))),z)", false, 1);
        Check.due("TIRED", x.answer(0, 1), 2);
        x = grown(tired, "X=v(s(s(s(s(s(s(s(s(z)))))))),z)", false, 1);
        Check.due("511 STEPS, on both sides", x.answer(0, 1), 1);
        x = grown(tired, "z=v(s(s(s(s(s(s(s(s(s(z))))))))),z)", false, 1);
        Check.due("no ANSWER", x.answer(0, 1), NONE);
    }

    private static String tower(int count, String end) {
        StringBuilder text = new StringBuilder();
        for (int k = 0; k < count; k++) text.append("s(");
        text.append(end);
        for (int k = 0; k < count; k++) text.append(")");
        return text.toString();
    }

    /** Y is one tower, and stands many times in the GOAL. */
    private static void answersTooGreatToBeginWith() {
        String system = "sym a 0, s 1, c 4, k 2; rule k(X,Y)->a;";
        NarrowHouse x = grown(system, "c(Y,Y,Y,k(X,Y))=c(" + tower(33, "a") + ",Z,W,k(V,Y))", false, 1);
        Check.due("3 + 4 * 34 are 139", x.answer(0, 1), 1);
        x = grown(system, "c(Y,Y,k(Y,X),k(Y,Y))=c(" + tower(34, "a") + ",Z,W,V)", false, 1);
        Check.due("4 + 5 * 35 are 179", x.answer(0, 1), 1);
        x = grown(system, "c(k(Y,Y),k(Y,Y),k(Y,Y),Y)=c(k(" + tower(26, "a") + ",Z),W,V,U)", false, 1);
        Check.due("4 + 7 * 27 are 193", x.answer(0, 1), 1);
        x = grown(system, "c(k(Y,Y),k(Y,Y),k(Y,Y),s(s(s(s(s(s(s(Y))))))))=c(k(" + tower(26, "a") + ",Z),W,V,U)", false, 1);
        Check.due("200 on the left side", x.answer(0, 1), 1);
        x = grown(system, "c(k(Y,Y),k(Y,Y),k(Y,Y),s(s(s(s(s(s(s(s(Y)))))))))=c(k(" + tower(26, "a") + ",Z),W,V,U)", false, 1);
        Check.due("201 on the left side", x.answer(0, 1), 2);
        x = grown(system, "c(k(" + tower(26, "a") + ",Z),W,V,U)=c(k(Y,Y),k(Y,Y),k(Y,Y),s(s(s(s(s(s(s(Y))))))))", false, 1);
        Check.due("200 on the right side", x.answer(0, 1), 1);
        x = grown(system, "c(k(" + tower(26, "a") + ",Z),W,V,U)=c(k(Y,Y),k(Y,Y),k(Y,Y),s(s(s(s(s(s(s(s(Y)))))))))", false, 1);
        Check.due("201 on the right side", x.answer(0, 1), 2);
    }

    /** One side alone is great, and its last SYMBOL is the 200th or the 201st. */
    private static void oneSideTooGreat() {
        String system = "sym a 0, s 1, c 4, w 1; rule w(X)->a;";
        String small = "c(a," + tower(21, "a") + ",a,a)";
        for (int k = 18; k <= 19; k++) {
            String great = "c(w(" + tower(k, "c(Y,Y,Y,c(Y,Y,Y,Y))") + "),Y,a,a)";
            for (int side = 0; side < 2; side++) {
                NarrowHouse x = grown(system, side == 0 ? great + "=" + small : small + "=" + great, false, 1);
                Check.due("ANSWERS", x.tree(3), 1);
                Check.due("NODE", x.answer(0, 0), 1);
                Check.due(182 + k + " on side " + side, x.answer(0, 1), k == 18 ? 1 : 2);
            }
        }
    }

    private static int find(NarrowHouse x, String values) {
        for (int k = 0; k < x.tree(3); k++) if (Check.show(x, 4, k).equals(values)) return k;
        Check.due("there is an ANSWER " + values, false, true);
        return NONE;
    }

    private static void covering() {
        NarrowHouse x = grown("sym a 0, b 0, f 1, g 2; rule f(X)->a; rule f(b)->a; rule f(g(a,Y))->a;", "f(X)=a", false, 1);
        Check.due("ANSWERS", x.tree(3), 3);
        int any = find(x, "X=X"), b = find(x, "X=b"), g = find(x, "X=g(a,_1)");
        Check.due("X covers b", x.covers(any, b), true);
        Check.due("X covers g(a,_1)", x.covers(any, g), true);
        Check.due("b covers X", x.covers(b, any), false);
        Check.due("g(a,_1) covers X", x.covers(g, any), false);
        Check.due("b covers g(a,_1)", x.covers(b, g), false);
        Check.due("g(a,_1) covers b", x.covers(g, b), false);
        for (int k = 0; k < 3; k++) Check.due("itself", x.covers(k, k), true);
        Check.due("covers(3,0)", x.covers(3, 0), false);
        Check.due("covers(0,3)", x.covers(0, 3), false);
        Check.due("covers(-1,0)", x.covers(-1, 0), false);
        Check.due("covers(0,-1)", x.covers(0, -1), false);
        Check.due("covers(MIN,MAX)", x.covers(Integer.MIN_VALUE, Integer.MAX_VALUE), false);
        NarrowHouse y = grown(PLUS, "z=z", false, 1);
        Check.due("no VALUES", y.covers(0, 0), true);
    }

    private static void coveringWithOneVariableTwice() {
        String rules = "rule h(X,Y)->a; rule h(X,X)->a; rule h(f(X),f(X))->a; rule h(f(X),f(Y))->a; rule h(f(a),f(f(a)))->a; "
            + "rule h(X,f(X))->a; rule h(Y,a)->a; rule h(f(X),f(f(a)))->a;";
        NarrowHouse x = grown("sym a 0, f 1, h 2; " + rules, "h(P,Q)=a", false, 1);
        Check.due("ANSWERS", x.tree(3), 8);
        String[] rows = {
            "11111111", // P, Q
            "01100000", // P, P
            "00100000", // f(_1), f(_1)
            "00111001", // f(_1), f(_2)
            "00001000", // f(a), f(f(a))
            "00001100", // P, f(P)
            "00000010", // P, a
            "00001001", // f(_1), f(f(a))
        };
        for (int a = 0; a < 8; a++) {
            for (int b = 0; b < 8; b++) {
                Check.due(a + " covers " + b + ": " + Check.show(x, 4, a) + " | " + Check.show(x, 4, b), x.covers(a, b), rows[a].charAt(b) == '1');
            }
        }
    }

    private static void noAnswers() {
        NarrowHouse x = grown(PLUS, "plus(X,Y)=s(s(z))", false, 3);
        Check.due("ANSWERS", x.tree(3), 2);
        for (int what = -2; what <= 3; what++) {
            Check.due("answer(2," + what + ")", x.answer(2, what), NONE);
            Check.due("answer(-1," + what + ")", x.answer(-1, what), NONE);
        }
        Check.due("answer(0,2)", x.answer(0, 2), NONE);
        Check.due("answer(0,-1)", x.answer(0, -1), NONE);
        Check.due("goal", Check.goal(x, "X=@", false), 1);
        Check.due("ANSWERS stay", x.answer(1, 0), 3);
        Check.due("system", Check.system(x, PLUS), 0);
        Check.due("no ANSWER", x.answer(0, 0), NONE);
        Check.due("none covers", x.covers(0, 0), false);
        Check.due("goal", Check.goal(x, "plus(X,Y)=s(s(z))", false), 0);
        Check.due("no ANSWER yet", x.answer(0, 0), NONE);
    }
}
