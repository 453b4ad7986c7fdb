/** Promises 5 and 6: what is counted, and the PAIRS. */
final class PairsTest {
    private static final int NONE = NarrowHouse.NONE;
    private static final String GROUP = "sym e 0, m 2, i 1; rule m(e,X)->X; rule m(i(X),X)->e; rule m(m(X,Y),Z)->m(X,m(Y,Z));";

    public static void main(String[] args) {
        counts();
        pairsInTheirOrder();
        ownRuleAtAnotherPlace();
        noPairs();
        variablesAreNewOnes();
        openOnes();
        moreThanTwoHundred();
        anotherSystem();
        Check.end();
    }

    private static void counts() {
        NarrowHouse x = Check.house("sym e 0, m 2, i 1; rule m(e,X)->X; rule i(e)->e;");
        Check.due("SYMBOLS", x.count(0), 3);
        Check.due("RULES", x.count(1), 2);
        Check.due("PAIRS", x.count(2), 0);
        Check.due("JOIN", x.count(3), 0);
        Check.due("OPEN", x.count(4), 0);
        Check.due("OUT", x.count(5), 0);
        Check.due("count(6)", x.count(6), NONE);
        Check.due("count(-1)", x.count(-1), NONE);
        Check.due("count(MIN)", x.count(Integer.MIN_VALUE), NONE);
        Check.normal(x, "m(e,i(e))");
        Check.due("OUT", x.count(5), 1);
    }

    private static void pair(NarrowHouse x, int k, int i, int p, int j, int joins, String shown) {
        Check.due("RULE i of " + k, x.pair(k, 0), i);
        Check.due("PLACE of " + k, x.pair(k, 1), p);
        Check.due("RULE j of " + k, x.pair(k, 2), j);
        Check.due("joins of " + k, x.pair(k, 3), joins);
        Check.due("PAIR " + k, Check.show(x, 1, k), shown);
    }

    private static void pairsInTheirOrder() {
        NarrowHouse x = Check.house(GROUP);
        Check.due("PAIRS", x.count(2), 3);
        pair(x, 0, 2, 1, 0, 1, "m(e,m(_1,_2))=m(_1,_2)");
        pair(x, 1, 2, 1, 1, 0, "m(i(_1),m(_1,_2))=m(e,_2)");
        pair(x, 2, 2, 1, 2, 1, "m(m(_1,_2),m(_3,_4))=m(m(_1,m(_2,_3)),_4)");
        Check.due("JOIN", x.count(3), 2);
        Check.due("OPEN", x.count(4), 0);
        Check.due("pair(3,0)", x.pair(3, 0), NONE);
        Check.due("pair(-1,0)", x.pair(-1, 0), NONE);
        Check.due("pair(0,4)", x.pair(0, 4), NONE);
        Check.due("pair(0,-1)", x.pair(0, -1), NONE);
        Check.due("pair(MAX,0)", x.pair(Integer.MAX_VALUE, 0), NONE);
        NarrowHouse y = Check.house("sym a 0, b 0, f 1, g 2; rule g(f(X),f(a))->X; rule f(a)->b; rule g(f(b),Y)->a;");
        pair(y, 0, 0, 0, 2, 0, "b=a");
        pair(y, 1, 0, 1, 1, 0, "a=g(b,f(a))");
        pair(y, 2, 0, 3, 1, 0, "_1=g(f(_1),b)");
        pair(y, 3, 2, 0, 0, 0, "a=b");
        Check.due("PAIRS", y.count(2), 4);
    }

    private static void ownRuleAtAnotherPlace() {
        NarrowHouse x = Check.house("sym a 0, f 1; rule f(f(X))->X;");
        Check.due("PAIRS", x.count(2), 1);
        pair(x, 0, 0, 1, 0, 1, "f(_1)=f(_1)");
        NarrowHouse y = Check.house("sym a 0, f 1; rule f(f(X))->a;");
        pair(y, 0, 0, 1, 0, 0, "a=f(a)");
    }

    private static void noPairs() {
        NarrowHouse x = Check.house("sym a 0, f 1, g 2; rule g(X,f(X))->a; rule f(g(X,X))->a;");
        Check.due("a VARIABLE's place is none, nor one within itself", x.count(2), 1);
        pair(x, 0, 0, 2, 1, 0, "a=g(g(_1,_1),a)");
        NarrowHouse y = Check.house("sym a 0, f 1, g 2, h 2; rule h(X,X)->a; rule h(Y,f(Y))->a;");
        Check.due("X would be in itself", y.count(2), 0);
        NarrowHouse z = Check.house("sym a 0, b 0, g 2; rule g(a,X)->a; rule g(b,X)->a;");
        Check.due("other SYMBOLS", z.count(2), 0);
    }

    private static void variablesAreNewOnes() {
        NarrowHouse x = Check.house("sym a 0, g 2, h 2; rule h(X,g(Y,X))->Y; rule g(X,X)->a;");
        Check.due("PAIRS", x.count(2), 1);
        pair(x, 0, 0, 2, 1, 0, "_1=h(_1,a)");
    }

    /** d doubles, so that eight of them make a TERM too great on the way; w makes one too great at once; v needs many STEPS. */
    private static void openOnes() {
        NarrowHouse x = Check.house("sym a 0, c 2, d 1, k 1; rule d(X)->c(X,X); rule k(X)->d(d(d(d(d(d(d(d(X)))))))); rule k(a)->a;");
        Check.due("PAIRS", x.count(2), 2);
        pair(x, 0, 1, 0, 2, 2, "d(d(d(d(d(d(d(d(a))))))))=a");
        pair(x, 1, 2, 0, 1, 2, "a=d(d(d(d(d(d(d(d(a))))))))");
        Check.due("JOIN", x.count(3), 0);
        Check.due("OPEN", x.count(4), 2);

        String big = "c(c(c(X,X),c(X,X)),c(c(X,X),c(X,X)))";
        String tower = "s(s(s(s(s(s(s(s(s(s(s(s(s(s(s(s(s(s(s(s(s(s(s(s(a))))))))))))))))))))))))";
        NarrowHouse y = Check.house("sym a 0, s 1, c 2, w 1; rule w(X)->" + big + "; rule w(" + tower + ")->a;");
        Check.due("PAIRS", y.count(2), 2);
        Check.due("OPEN", y.count(4), 2);
        Check.due("pair(0,3)", y.pair(0, 3), 2);
        Check.show(y, 0, 0);
        String old = Check.out(y);
        Check.due("a side above 200", y.show(1, 0), NONE);
        Check.due("a side above 200", y.show(1, 1), NONE);
        Check.due("OUT stays", Check.out(y), old);
        // eight times 23 and 15 more are 199 still
        NarrowHouse z = Check.house("sym a 0, s 1, c 2, w 1; rule w(X)->s(" + big + "); rule w("
            + tower.replace("s(s(a))", "a") + ")->a;");
        Check.due("200 are not above 200", z.pair(0, 3), 0);
        Check.due("they are shown", z.show(1, 0) > 500, true);

        NarrowHouse t = Check.house("sym z 0, s 1, v 2, k 1; rule v(z,Y)->Y; rule v(s(X),Y)->v(X,v(X,Y)); "
            + "rule k(X)->v(s(s(s(s(s(s(s(s(s(z))))))))),X); rule k(z)->z; rule k(s(z))->s(z);");
        Check.due("TIRED: 1,023 STEPS", t.pair(0, 3), 2);
        Check.due("OPEN", t.count(4), 4);
        Check.due("PAIRS", t.count(2), 4);
    }

    private static void moreThanTwoHundred() {
        StringBuilder text = new StringBuilder("sym a 0, b 0, f 2; ");
        for (int k = 0; k < 16; k++) text.append(k == 9 ? "rule f(X,Y)->b; " : "rule f(X,Y)->a; ");
        NarrowHouse x = Check.house(text.toString());
        Check.due("PAIRS", x.count(2), 240);
        // the first 200 are of RULES 0 to 12, and five of RULE 13: all of RULE 9, and one of each of those twelve, have b in them
        Check.due("JOIN", x.count(3), 200 - 15 - 12);
        Check.due("OPEN", x.count(4), 0);
        Check.due("pair(199,0)", x.pair(199, 0), 13);
        Check.due("pair(199,2)", x.pair(199, 2), 4);
        Check.due("pair(200,0)", x.pair(200, 0), NONE);
        Check.due("show(1,199)", Check.show(x, 1, 199), "a=a");
        Check.due("show(1,200)", x.show(1, 200), NONE);
        StringBuilder exact = new StringBuilder("sym a 0, f 2, g 1; ");
        for (int k = 0; k < 14; k++) exact.append("rule f(X,Y)->a; ");
        exact.append("rule g(f(X,Y))->a; rule g(f(X,a))->a;");
        NarrowHouse y = Check.house(exact.toString());
        Check.due("PAIRS", y.count(2), 14 * 13 + 14 + 1 + 14 + 1);
    }

    private static void anotherSystem() {
        NarrowHouse x = Check.house(GROUP);
        Check.due("PAIRS", x.count(2), 3);
        Check.due("system", Check.system(x, "sym a 0, f 1; rule f(f(X))->X;"), 0);
        Check.due("PAIRS", x.count(2), 1);
        Check.due("JOIN", x.count(3), 1);
        Check.due("pair(1,0)", x.pair(1, 0), NONE);
        Check.due("system", Check.system(x, "sym a 0;"), 0);
        Check.due("PAIRS", x.count(2), 0);
        Check.due("JOIN", x.count(3), 0);
        Check.due("pair(0,0)", x.pair(0, 0), NONE);
        x = Check.house("sym a 0, c 2, d 1, k 1; rule d(X)->c(X,X); rule k(X)->d(d(d(d(d(d(d(d(X)))))))); rule k(a)->a;");
        Check.due("OPEN", x.count(4), 2);
        Check.due("system", Check.system(x, "sym f 1; rule f(f(X))->X;"), 0);
        Check.due("OPEN", x.count(4), 0);
        Check.due("JOIN", x.count(3), 1);
        pair(x, 0, 0, 1, 0, 1, "f(_1)=f(_1)");
    }
}
