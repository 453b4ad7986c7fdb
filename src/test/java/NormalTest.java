/** Promise 7: NORMAL FORMS. */
final class NormalTest {
    private static final int NONE = NarrowHouse.NONE;
    private static final int GREAT = -2;
    private static final int TIRED = -3;
    private static final int FAULTY = -4;
    private static final String PLUS = "sym z 0, s 1, plus 2; rule plus(z,Y)->Y; rule plus(s(X),Y)->s(plus(X,Y));";

    public static void main(String[] args) {
        forms();
        firstSymbol();
        argumentsFirstAndFirstRule();
        faults();
        refused();
        thousandSteps();
        twoHundredSigns();
        greatDependsOnTheOrder();
        longOut();
        Check.end();
    }

    private static void normal(NarrowHouse x, String text, int steps, String form) {
        Check.due("normal(" + text + ")", Check.normal(x, text), steps);
        Check.due("fault(0)", x.fault(0), 0);
        Check.due("fault(1)", x.fault(1), NONE);
        Check.due("form of " + text, Check.out(x), form);
        Check.due("count(5)", x.count(5), form.length());
    }

    private static void forms() {
        NarrowHouse x = Check.house(PLUS);
        normal(x, "z", 0, "z");
        normal(x, "Any9", 0, "Any9");
        normal(x, " plus ( s ( s (z)) ,\ns(z) ) ", 3, "s(s(s(z)))");
        normal(x, "plus(X,plus(s(Y),X))", 1, "plus(X,s(plus(Y,X)))");
        normal(x, "plus(plus(z,A),plus(z,B))", 2, "plus(A,B)");
        NarrowHouse g = Check.house("sym a 0, f 1, g 2; rule f(f(X))->X; rule g(X,X)->a;");
        normal(g, "g(f(f(f(X))),f(X))", 2, "a");
        normal(g, "g(X,Y)", 0, "g(X,Y)");
        normal(g, "g(g(X,X),g(Y,Y))", 3, "a");
        normal(g, "g(f(f(X)),f(f(Y)))", 2, "g(X,Y)");
        normal(g, "g(g(X,f(X)),g(X,f(X)))", 1, "a");
        normal(Check.house("sym a 0;"), "a", 0, "a");
        normal(Check.house("sym f 1, a 0, k 4; rule k(f(A),B,C,D)->k(A,D,C,B);"), "k(f(X),Y,Z,a)", 1, "k(X,a,Z,Y)");
    }

    /** SYMBOLS that were told first are like the others. */
    private static void firstSymbol() {
        NarrowHouse x = Check.house("sym f 1, g 2, a 0; rule f(f(X))->X; rule g(X,X)->f(X);");
        normal(x, "f(f(f(a)))", 1, "f(a)");
        normal(x, "g(f(f(X)),g(f(X),f(X)))", 4, "f(X)");
        normal(x, "g(f(X),g(Y,Y))", 1, "g(f(X),f(Y))");
        NarrowHouse y = Check.house("sym c 0, d 1, g 2; rule g(X,c)->d(X); rule d(c)->c;");
        normal(y, "g(g(c,c),d(c))", 5, "c");
    }

    private static void argumentsFirstAndFirstRule() {
        NarrowHouse x = Check.house("sym a 0, b 0, f 1; rule f(a)->b; rule f(X)->a;");
        normal(x, "f(a)", 1, "b");
        normal(x, "f(b)", 1, "a");
        normal(x, "f(f(b))", 2, "b");
        NarrowHouse y = Check.house("sym a 0, b 0, f 1; rule f(X)->a; rule f(a)->b;");
        normal(y, "f(a)", 1, "a");
        NarrowHouse k = Check.house("sym a 0, f 1, k 1; rule f(X)->X; rule k(X)->a; rule k(f(X))->f(f(f(X)));");
        normal(k, "k(f(f(f(a))))", 4, "a");
        NarrowHouse r = Check.house("sym a 0, b 0, f 1, h 1, g 2; rule g(X,Y)->h(f(X)); rule f(a)->b; rule h(b)->a;");
        normal(r, "g(a,g(b,b))", 4, "a");
    }

    private static void faults() {
        NarrowHouse x = Check.house(PLUS);
        String[][] wrong = {
            {"1", "pl^@"}, {"1", "^abcdefghi"}, {"2", "^"}, {"2", "z ^z"}, {"2", "^(z)"}, {"2", "plus(z,^)"}, {"2", "s(z^"}, {"2", "z^=z"},
            {"2", "z^;"}, {"2", "^rule"}, {"3", "k(A,B,C,D,E,F,^G)"}, {"5", "^q"}, {"5", "s(^q)"}, {"6", "^s"}, {"6", "^z(z)"},
            {"6", "^plus(q)"}, {"5", "s(plus(^q,s))"}, {"2", "z ^-> z"},
        };
        normal(x, "s(z)", 0, "s(z)");
        for (String[] one : wrong) {
            String text = one[1].replace("^", "");
            Check.due("normal(" + one[1] + ")", Check.normal(x, text), FAULTY);
            Check.due("FAULT of " + one[1], x.fault(0), Integer.parseInt(one[0]));
            Check.due("place of " + one[1], x.fault(1), one[1].indexOf('^'));
            Check.due("OUT stays", Check.out(x), "s(z)");
        }
        normal(x, "plus(A,plus(B,plus(C,plus(D,plus(E,plus(F,F))))))", 0, "plus(A,plus(B,plus(C,plus(D,plus(E,plus(F,F))))))");
        normal(x, tower("s(", 39, "z"), 0, tower("s(", 39, "z"));
        Check.due("SIZE 41", Check.normal(x, tower("s(", 40, "z")), FAULTY);
        Check.due("FAULT", x.fault(0), 3);
        Check.due("place", x.fault(1), 80);
    }

    private static void refused() {
        NarrowHouse x = Check.house(PLUS);
        Check.feed(x, "s(z)");
        Check.due("normal(-1)", x.normal(-1), NONE);
        Check.due("normal(21)", x.normal(21), NONE);
        Check.due("normal(MAX)", x.normal(Integer.MAX_VALUE), NONE);
        Check.due("the tape stays", x.normal(4), 0);
        Check.due("normal(0)", x.normal(0), FAULTY);
    }

    private static String tower(String sign, int count, String end) {
        StringBuilder text = new StringBuilder();
        for (int k = 0; k < count; k++) text.append(sign);
        text.append(end);
        for (int k = 0; k < count; k++) text.append(")");
        return text.toString();
    }

    /** v with n s is 3 * 2^n - 1 STEPS, so the n here make 767 + 191 + 23 + 11 + 5 + 2, and w one more. */
    private static void thousandSteps() {
        NarrowHouse x = Check.house("sym z 0, s 1, w 1, v 2; rule w(Y)->Y; rule v(z,Y)->w(Y); rule v(s(X),Y)->v(X,v(X,Y));");
        int[] all = {0, 1, 2, 3, 6, 8};
        String text = "z";
        for (int n : all) text = "v(" + tower("s(", n, "z") + "," + text + ")";
        normal(x, "v(z,z)", 2, "z");
        normal(x, text, 999, "z");
        normal(x, text.replace(",z))", ",w(z)))"), 1000, "z");
        Check.due("1,001 STEPS", Check.normal(x, text.replace(",z))", ",w(w(z))))")), TIRED);
        Check.due("OUT stays", Check.out(x), "z");
        Check.due("1,001 STEPS", Check.normal(x, "w(" + text.replace(",z))", ",w(z)))") + ")"), TIRED);
        Check.due("no FAULT", x.fault(0), 0);
    }

    private static final String UP = "sym a 0, s 1, c 2, u 1, k 1; rule u(X)->" + tower("s(", 39, "X") + "; rule k(X)->a;";

    private static void twoHundredSigns() {
        NarrowHouse x = Check.house(UP);
        String five = tower("u(", 5, tower("s(", 4, "a"));
        normal(x, five, 5, tower("s(", 199, "a"));
        Check.due("OUT", x.count(5), 598);
        Check.due("201", Check.normal(x, "s(" + five + ")"), GREAT);
        Check.due("OUT stays", x.count(5), 598);
        Check.due("201 on the way", Check.normal(x, "k(" + five + ")"), GREAT);
        normal(x, "k(" + five.replace("s(a)", "a") + ")", 6, "a");
    }

    private static void greatDependsOnTheOrder() {
        NarrowHouse x = Check.house(UP);
        String up = tower("u(", 5, "a");
        normal(x, "c(k(s(s(s(a)))),a)", 1, "c(a,a)");
        normal(x, "c(k(s(s(s(a)))),k(a))", 2, "c(a,a)");
        normal(x, "c(k(s(s(s(s(a))))),s(" + up + "))", 6, "c(a," + tower("s(", 196, "a") + ")");
        Check.due("what is behind counts", Check.normal(x, "c(s(" + up + "),k(s(s(s(s(a))))))"), GREAT);
        normal(x, "c(s(" + up + "),k(a))", 6, "c(" + tower("s(", 196, "a") + ",a)");
    }

    private static void longOut() {
        NarrowHouse x = Check.house("sym azero678 0, dodo5678 2, up345678 1; rule up345678(X)->dodo5678(X,X);");
        String form = "azero678";
        for (int k = 0; k < 6; k++) form = "dodo5678(" + form + "," + form + ")";
        Check.due("normal", Check.normal(x, tower("up345678(", 6, "azero678")), 6);
        Check.due("it is longer than OUT", form.length() > 1000, true);
        Check.due("count(5)", x.count(5), 1000);
        Check.due("OUT", Check.out(x), form.substring(0, 1000));
        Check.due("out(999)", x.out(999), form.charAt(999));
        Check.due("out(1000)", x.out(1000), NONE);
        Check.due("out(-1)", x.out(-1), NONE);
    }
}
