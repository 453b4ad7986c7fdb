/** Promises 15 and 16: what is SHOWN, and OUT. */
final class OutTest {
    private static final int NONE = NarrowHouse.NONE;

    public static void main(String[] args) {
        rules();
        pairs();
        namesOfTheGoal();
        numbersInTheOrderShown();
        tenAndMoreVariables();
        longOnes();
        refused();
        bytes();
        Check.end();
    }

    private static void rules() {
        NarrowHouse x = Check.house("sym z 0, suc 1, p 2; rule p(z , Y1)->Y1; rule p(suc(Longer12),\nY) -> suc( p (Longer12,Y));rule suc(z)->z;");
        Check.due("show(0,0)", Check.show(x, 0, 0), "p(z,Y1)->Y1");
        Check.due("count(5)", x.count(5), 11);
        Check.due("show(0,1)", Check.show(x, 0, 1), "p(suc(Longer12),Y)->suc(p(Longer12,Y))");
        Check.due("show(0,2)", Check.show(x, 0, 2), "suc(z)->z");
        Check.due("show(0,3)", x.show(0, 3), NONE);
        Check.due("show(0,-1)", x.show(0, -1), NONE);
        Check.due("OUT stays", Check.out(x), "suc(z)->z");
    }

    private static void pairs() {
        NarrowHouse x = Check.house("sym e 0, m 2; rule m(m(X,Y),Z)->m(X,m(Y,Z)); rule m(e,Y)->Y;");
        Check.due("show(1,0)", Check.show(x, 1, 0), "m(m(_1,_2),m(_3,_4))=m(m(_1,m(_2,_3)),_4)");
        Check.due("show(1,1)", Check.show(x, 1, 1), "m(e,m(_1,_2))=m(_1,_2)");
        Check.due("show(1,2)", x.show(1, 2), NONE);
        Check.due("show(1,-1)", x.show(1, -1), NONE);
        Check.due("OUT stays", Check.out(x), "m(e,m(_1,_2))=m(_1,_2)");
        NarrowHouse y = Check.house("sym a 0, f 1, g 3; rule g(X,f(X),Y)->Y; rule f(a)->a;");
        Check.due("a side that is a VARIABLE", Check.show(y, 1, 0), "_1=g(a,a,_1)");
    }

    private static void namesOfTheGoal() {
        NarrowHouse x = Check.house("sym a 0, f 1, g 2, h 3; rule g(X,X)->f(X); rule h(X,Y,Z)->X; rule h(f(X),Y,Y)->Y;");
        Check.due("goal", Check.goal(x, "h(P1,g(Q,R),S)=a", false), 0);
        x.expand(1);
        Check.due("show(2,0)", Check.show(x, 2, 0), "h(P1,g(Q,R),S)=a");
        Check.due("show(3,0)", Check.show(x, 3, 0), "P1=P1,Q=Q,R=R,S=S");
        Check.due("show(2,1)", Check.show(x, 2, 1), "P1=a");
        Check.due("show(3,1)", Check.show(x, 3, 1), "P1=P1,Q=Q,R=R,S=S");
        Check.due("show(4,0)", Check.show(x, 4, 0), "P1=a,Q=Q,R=R,S=S");
        Check.due("show(2,2)", Check.show(x, 2, 2), "g(Q,R)=a");
        Check.due("show(3,2)", Check.show(x, 3, 2), "P1=f(_1),Q=Q,R=R,S=g(Q,R)");
        Check.due("show(2,3)", Check.show(x, 2, 3), "h(P1,f(Q),S)=a");
        Check.due("show(3,3)", Check.show(x, 3, 3), "P1=P1,Q=Q,R=Q,S=S");
        Check.due("show(4,1)", x.show(4, 1), NONE);
        Check.due("goal", Check.goal(x, "g(B,f(A))=f(f(A))", false), 0);
        x.expand(1);
        Check.due("show(2,1)", Check.show(x, 2, 1), "f(f(A))=f(f(A))");
        Check.due("show(3,1)", Check.show(x, 3, 1), "B=f(A),A=A");
        Check.due("show(4,0)", Check.show(x, 4, 0), "B=f(A),A=A");
    }

    private static void numbersInTheOrderShown() {
        NarrowHouse x = Check.house("sym a 0, g 2, h 3; rule h(g(X,Y),g(Y,Z),Z)->g(Z,g(Y,X));");
        Check.due("goal", Check.goal(x, "h(A,B,C)=a", false), 0);
        x.expand(1);
        Check.due("show(2,1)", Check.show(x, 2, 1), "g(C,g(_1,_2))=a");
        Check.due("show(3,1)", Check.show(x, 3, 1), "A=g(_1,_2),B=g(_2,C),C=C");
    }

    private static void tenAndMoreVariables() {
        NarrowHouse x = Check.house("sym a 0, k 4, f 1; rule f(k(k(B,k(C,D,E,F),G,H),A,D,E))->f(k(H,G,F,E));");
        Check.due("goal", Check.goal(x, "k(f(P),f(Q),f(R),a)=a", false), 0);
        Check.due("expand(3)", x.expand(3), 3);
        int last = x.tree(1) - 1;
        Check.due("show(2," + last + ")", Check.show(x, 2, last), "k(f(P),f(k(_1,_2,_3,_4)),f(k(_5,_6,_7,_8)),a)=a");
        Check.due("show(3," + last + ")", Check.show(x, 3, last),
            "P=P,Q=k(k(_1,k(_2,_3,_4,_5),_6,_7),_8,_3,_4),R=k(k(_9,k(_10,_11,_12,_13),_14,_15),_16,_11,_12)");
    }

    private static String tower(String sign, int count, String end) {
        StringBuilder text = new StringBuilder();
        for (int k = 0; k < count; k++) text.append(sign).append("(");
        text.append(end);
        for (int k = 0; k < count; k++) text.append(")");
        return text.toString();
    }

    /** More than a thousand bytes are told, and the first thousand of them kept. */
    private static void longOnes() {
        String s = "s2345678";
        NarrowHouse x = Check.house("sym a 0, " + s + " 1, up 1; rule up(X)->" + tower(s, 39, "X") + ";");
        Check.due("goal", Check.goal(x, "up(up(X))=" + s + "(up(a))", false), 0);
        x.expand(9);
        int last = x.tree(1) - 1;
        String left = tower(s, 78, "X");
        String whole = left + "=" + tower(s, 40, "a");
        int found = NONE;
        for (int i = 0; i <= last; i++) if (x.node(i, 4) == 79 && x.node(i, 5) == 41) found = i;
        Check.due("show", x.show(2, found), whole.length());
        Check.due("it is more", whole.length() > 1000, true);
        Check.due("count(5)", x.count(5), 1000);
        Check.due("OUT", Check.out(x), whole.substring(0, 1000));
        Check.due("out(999)", x.out(999), whole.charAt(999));
        Check.due("out(1000)", x.out(1000), NONE);
        Check.due("a short one", Check.show(x, 2, 0), "up(up(X))=" + s + "(up(a))");
        Check.due("out behind it", x.out(20 + s.length()), NONE);
    }

    private static void refused() {
        NarrowHouse x = Check.house("sym a 0, f 1; rule f(f(X))->X;");
        Check.due("goal", Check.goal(x, "f(X)=f(a)", false), 0);
        Check.due("show(0,0)", x.show(0, 0), "f(f(X))->X".length());
        int[][] none = {{0, 1}, {1, 1}, {2, 1}, {3, 1}, {4, 1}, {5, 0}, {-1, 0}, {0, -1}, {2, Integer.MIN_VALUE}, {4, Integer.MAX_VALUE}, {99, 0}};
        for (int[] one : none) {
            Check.due("show(" + one[0] + "," + one[1] + ")", x.show(one[0], one[1]), NONE);
            Check.due("OUT stays", Check.out(x), "f(f(X))->X");
        }
        for (int what = 0; what <= 4; what++) Check.due("show(" + what + ",0)", x.show(what, 0) > 0, true);
    }

    private static void bytes() {
        NarrowHouse x = Check.house("sym a 0, f 1; rule f(f(X))->X;");
        Check.due("empty", x.out(0), NONE);
        x.show(0, 0);
        String due = "f(f(X))->X";
        for (int i = 0; i < due.length(); i++) Check.due("out(" + i + ")", x.out(i), due.charAt(i));
        Check.due("out(10)", x.out(10), NONE);
        Check.due("out(-1)", x.out(-1), NONE);
        Check.due("out(MIN)", x.out(Integer.MIN_VALUE), NONE);
        Check.due("out(MAX)", x.out(Integer.MAX_VALUE), NONE);
    }
}
