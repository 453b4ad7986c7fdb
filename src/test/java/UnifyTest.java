/** Promise 8: what makes two TERMS the same. */
final class UnifyTest {
    private static final int NONE = NarrowHouse.NONE;
    private static final String SYMBOLS = "sym a 0, b 0, f 1, g 2, k 4; rule f(a)->a;";

    public static void main(String[] args) {
        becomes();
        doNot();
        names();
        tooGreat();
        doubling();
        faults();
        refused();
        Check.end();
    }

    private static void unify(NarrowHouse x, String text, String out) {
        Check.due("unify(" + text + ")", Check.unify(x, text), 1);
        Check.due("OUT of " + text, Check.out(x), out);
        Check.due("fault(0)", x.fault(0), 0);
        Check.due("fault(1)", x.fault(1), NONE);
    }

    private static void becomes() {
        NarrowHouse x = Check.house(SYMBOLS);
        unify(x, "X=a", "X=a");
        unify(x, "a = X", "X=a");
        unify(x, "f(X)=f(f(Y))", "X=f(Y),Y=Y");
        unify(x, "g(X,Y)=g(f(Y),a)", "X=f(a),Y=a");
        unify(x, "g(X,X)=g(f(Y),f(a))", "X=f(a),Y=a");
        unify(x, "k(X,Y,Z,W)=k(Y,Z,W,b)", "X=b,Y=b,Z=b,W=b");
        unify(x, "g(X,Y)=Z", "X=X,Y=Y,Z=g(X,Y)");
        unify(x, "f(a)=f(a)", "");
        Check.due("count(5)", x.count(5), 0);
        unify(x, "g(Y,X)=g(f(X),f(a))", "Y=f(f(a)),X=f(a)");
        unify(x, "k(A,B,C,D)=k(B,C,D,g(E,F))", "A=g(E,F),B=g(E,F),C=g(E,F),D=g(E,F),E=E,F=F");
    }

    private static void doNot() {
        NarrowHouse x = Check.house(SYMBOLS);
        unify(x, "X=b", "X=b");
        String[] none = {"a=b", "f(X)=a", "X=f(X)", "f(X)=X", "g(X,Y)=g(f(Y),f(X))", "g(X,X)=g(a,b)", "g(X,X)=g(Y,f(Y))", "f(a)=a",
            "k(X,Y,Z,X)=k(f(Y),f(Z),f(X),W)", "g(X,g(Y,X))=g(g(Y,Y),X)"};
        for (String text : none) {
            Check.due("unify(" + text + ")", Check.unify(x, text), 0);
            Check.due("no FAULT", x.fault(0), 0);
            Check.due("OUT stays", Check.out(x), "X=b");
        }
    }

    /** VARIABLES that are one bear the name of the first in the GOAL. */
    private static void names() {
        NarrowHouse x = Check.house(SYMBOLS);
        unify(x, "X=Y", "X=X,Y=X");
        unify(x, "Y=X", "Y=Y,X=Y");
        unify(x, "X=X", "X=X");
        unify(x, "g(X,Y)=g(Y,X)", "X=X,Y=X");
        unify(x, "g(Longer12,g(B2,C))=g(C,g(C,B2))", "Longer12=Longer12,B2=Longer12,C=Longer12");
        unify(x, "g(Z,g(X,Y))=g(f(Y),g(Y,X))", "Z=f(X),X=X,Y=X");
        unify(x, "k(A,B,C,D)=k(D,C,B,A)", "A=A,B=B,C=B,D=A");
    }

    private static String tower(int count, String end) {
        StringBuilder text = new StringBuilder();
        for (int k = 0; k < count; k++) text.append("f(");
        text.append(end);
        for (int k = 0; k < count; k++) text.append(")");
        return text.toString();
    }

    private static void tooGreat() {
        NarrowHouse x = Check.house(SYMBOLS);
        String z = tower(23, "a");
        String y = "g(" + z + "," + z + ")";
        unify(x, "g(X,g(Y,Z))=g(f(g(Y,Y)),g(g(Z,Z)," + z + "))", "X=f(g(" + y + "," + y + ")),Y=" + y + ",Z=" + z);
        String old = Check.out(x);
        Check.due("SIZE 101", Check.unify(x, "g(X,g(Y,Z))=g(f(f(g(Y,Y))),g(g(Z,Z)," + z + "))"), 2);
        Check.due("OUT stays", Check.out(x), old);
        Check.due("no FAULT", x.fault(0), 0);
        Check.due("SIZE 101 in the last one", Check.unify(x, "g(g(Z,Y),X)=g(g(" + z + ",g(Z,Z)),f(f(g(Y,Y))))"), 2);
        unify(x, "f(g(f(f(g(Y,Y))),g(g(Z,Z)," + z + ")))=f(g(f(f(g(Y,Y))),g(Y,Z)))", "Y=" + y + ",Z=" + z);
    }

    /** Each VARIABLE is many times the next one, on both sides: written out it would never end. */
    private static void doubling() {
        NarrowHouse x = Check.house(SYMBOLS);
        String left = "g(k(A,A,A,A),g(k(B,B,B,B),g(k(C,C,C,C),k(D,D,D,D))))";
        Check.due("two towers", Check.unify(x, "k(A,B,C,D)=k(k(B,B,B,B),k(C,C,C,C),k(D,D,D,D),k(E,E,E,E))"), 2);
        Check.due("with its own", Check.unify(x, left + "=" + left), 1);
        Check.due("in itself at last", Check.unify(x, "k(A,B,C,D)=k(k(B,B,B,B),k(C,C,C,C),k(D,D,D,D),k(A,A,A,A))"), 0);
        Check.due("both sides", Check.unify(x, "k(A,B,g(C,D),k(E,F,A,F))=k(g(B,B),g(C,C),g(g(D,D),g(E,E)),k(g(F,F),a,g(B,B),F))"), 1);
    }

    private static void faults() {
        NarrowHouse x = Check.house(SYMBOLS);
        unify(x, "X=a", "X=a");
        String[][] wrong = {
            {"2", "^"}, {"2", "X^"}, {"2", "X=^"}, {"2", "X=a^=a"}, {"2", "X^->a"}, {"2", "X=a^;"}, {"1", "X=^_1"}, {"2", "X^;"}, {"2", "^=X"},
            {"3", "k(A,B,C,D)=k(E,F,^G,A)"}, {"3", "g(k(A,B,C,D),k(E,F,^G,q))=@"}, {"5", "^q=f"}, {"6", "^f=q"}, {"5", "f(X)=f(^c)"},
            {"6", "X=g(^g(X),X)"}, {"6", "X=^f"}, {"2", "X^(a)=a"}, {"3", "X=" + tower(40, "^X")},
            {"3", tower(40, "^a") + "=X"},
        };
        for (String[] one : wrong) {
            Check.due("unify(" + one[1] + ")", Check.unify(x, one[1].replace("^", "")), -4);
            Check.due("FAULT of " + one[1], x.fault(0), Integer.parseInt(one[0]));
            Check.due("place of " + one[1], x.fault(1), one[1].indexOf('^'));
            Check.due("OUT stays", Check.out(x), "X=a");
        }
        unify(x, "k(A,B,C,D)=k(E,F,A,A)", "A=A,B=B,C=A,D=A,E=A,F=B");
        unify(x, tower(39, "a") + "=" + tower(39, "X"), "X=a");
    }

    private static void refused() {
        NarrowHouse x = Check.house(SYMBOLS);
        Check.feed(x, "X=a");
        Check.due("unify(-1)", x.unify(-1), NONE);
        Check.due("unify(21)", x.unify(21), NONE);
        Check.due("the tape stays", x.unify(3), 1);
        Check.due("no TREE comes of it", x.tree(1), 0);
        Check.due("goal", Check.goal(x, "f(X)=b", false), 0);
        Check.due("unify", Check.unify(x, "X=b"), 1);
        Check.due("the TREE stays", Check.show(x, 2, 0), "f(X)=b");
    }
}
