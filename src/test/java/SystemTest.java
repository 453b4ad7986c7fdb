/** Promises 3 and 4: what is a SYSTEM, and which FAULT stands where. A ^ in a text marks the place that is due. */
final class SystemTest {
    private static final int NONE = NarrowHouse.NONE;

    public static void main(String[] args) {
        tokens();
        grammar();
        tooMany();
        leastKindAndFirstPlace();
        symbolsToldTwice();
        namesAndArities();
        rulesThatAreNone();
        above();
        whatStaysWithAFault();
        latestFault();
        Check.end();
    }

    private static void system(int kind, String marked) {
        NarrowHouse x = new NarrowHouse();
        String text = marked.replace("^", "");
        Check.feed(x, text);
        Check.due("system(" + marked + ")", x.system(text.length()), kind);
        Check.due("fault(0) of " + marked, x.fault(0), kind);
        Check.due("fault(1) of " + marked, x.fault(1), marked.indexOf('^'));
        Check.due("fault(2)", x.fault(2), NONE);
        Check.due("fault(-1)", x.fault(-1), NONE);
    }

    private static void rule(int kind, String marked) {
        system(kind, "sym a 0, b 0, f 1, g 2, h 2; " + marked);
    }

    private static void tokens() {
        system(0, "sym abcdefgh 0;");
        system(1, "sym ^abcdefghi 0;");
        system(1, "sym ^a2345678901234567890 0;");
        system(0, "sym aB9z 0;");
        system(0, "  \n sym\na\n0\n;\n");
        system(0, "sym a 0,b 1,c 2;rule b(X)->a;rule c(X,Y)->X;");
        system(0, "sym f 1, a 0; rule f ( X1234567 ) -> X1234567 ;");
        system(1, "sym f 1, a 0; rule f(^X12345678) -> a;");
        system(1, "sym a 0; ^@");
        system(1, "sym a 0; ^_a");
        system(1, "sym a 0^.;");
        system(1, "sym a 0; rule a ^-a;");
        system(1, "sym a 0; rule a ^- > a;");
        system(1, "sym a 0; rule a ^> a;");
        system(1, "sym a 0; rule a ^-");
        system(1, "^?");
        system(1, "sym a 0; rule a -> a^'");
        system(2, "^symz 0;");
        system(2, "sym z0^;");
        system(2, "sym a 1^2;");
        system(2, "sym a 1^b;");
        system(2, "sym a 0; ^rules");
        system(0, "sym sym1 0, rulex 0, symm 1; rule symm(Rule)->rulex;");
    }

    private static void grammar() {
        system(2, "^");
        system(2, "    ^");
        system(2, "sym^");
        system(2, "sym  ^");
        system(2, "^a 0;");
        system(2, "^rule a->a;");
        system(2, "^;");
        system(2, "^rule X->a; rule Y->a;");
        system(2, "sym ^;");
        system(2, "sym ^A 0;");
        system(2, "sym ^sym 0;");
        system(2, "sym ^rule 0;");
        system(2, "sym a^;");
        system(2, "sym a ^b;");
        system(0, "sym a 4;");
        system(2, "sym a ^5;");
        system(2, "sym a ^9;");
        system(2, "sym a 0^");
        system(2, "sym a 0 ^b 0;");
        system(2, "sym a 0,^;");
        system(2, "sym a 0;^;");
        system(2, "sym a 0; ^a");
        system(2, "sym a 0; ^sym b 0;");
        rule(2, "rule^");
        rule(2, "rule ^-> a;");
        rule(2, "rule f(a ^a) -> a;");
        rule(2, "rule a(^) -> a;");
        rule(2, "rule f(a,^) -> a;");
        rule(2, "rule f(a ^-> a;");
        rule(2, "rule f(^,a) -> a;");
        rule(2, "rule f(a)^) -> a;");
        rule(2, "rule X^(a) -> a;");
        rule(2, "rule f(^0) -> a;");
        rule(2, "rule f(^rule) -> a;");
        rule(2, "rule f(a) ^= a;");
        rule(2, "rule f(a) -> ^;");
        rule(2, "rule f(a) -> a^");
        rule(2, "rule f(a) -> a ^-> a;");
        rule(2, "rule f(a) -> a^,");
        rule(2, "rule f(a) -> a; ^f(b) -> a;");
        rule(2, "rule f(a)^(b) -> a;");
    }

    private static String symbols(int count) {
        StringBuilder text = new StringBuilder("sym ");
        for (int k = 0; k < count; k++) text.append(k == 0 ? "" : ", ").append((char) ('a' + k)).append(" ").append(k % 5);
        return text.toString();
    }

    private static String tower(int signs, String end) {
        StringBuilder text = new StringBuilder();
        for (int k = 1; k < signs; k++) text.append("f(");
        text.append(end);
        for (int k = 1; k < signs; k++) text.append(")");
        return text.toString();
    }

    private static void tooMany() {
        system(0, symbols(16) + ";");
        system(3, symbols(16) + ", ^q 0;");
        system(3, symbols(16) + ", ^a 9;");
        system(2, symbols(16) + ",^;");
        StringBuilder sixteen = new StringBuilder();
        for (int k = 0; k < 16; k++) sixteen.append("rule f(X) -> X; ");
        rule(0, sixteen.toString());
        rule(3, sixteen + "^rule f(X) -> X;");
        rule(3, sixteen + "^rule");
        rule(2, sixteen + "^a");
        String eight = "g(A,g(B,g(C,g(D,g(E,g(F,g(G,H)))))))";
        rule(0, "rule " + eight + " -> H;");
        rule(0, "rule " + eight + " -> f(A);");
        rule(3, "rule h(" + eight + ",^I) -> a;");
        rule(3, "rule " + eight + " -> f(^I);");
        rule(0, "rule g(" + eight.replace("H", "A") + ",H) -> a;");
        rule(0, "rule " + tower(40, "X") + " -> " + tower(39, "X") + ";");
        rule(7, "rule " + tower(40, "X") + " ^-> " + tower(40, "X") + ";");
        rule(3, "rule " + tower(41, "^X") + " -> X;");
        rule(3, "rule " + tower(41, "^a") + " -> X;");
        rule(3, "rule f(X) -> " + tower(41, "^X") + ";");
        StringBuilder wide = new StringBuilder("rule f(a");
        for (int k = 0; k < 38; k++) wide.append(",a");
        rule(6, wide.toString().replace("rule f", "rule ^f") + ") -> a;");
        rule(3, wide + ",^a) -> a;");
    }

    private static void leastKindAndFirstPlace() {
        system(1, symbols(16) + ", ^abcdefghi 0;");
        system(2, symbols(16) + ", ^A 0;");
        rule(1, "rule " + tower(41, "^a23456789") + " -> X;");
        rule(1, "rule ^a23456789(");
        rule(2, "rule f(^) -> @;");
        rule(1, "rule f(a) ^@ -> ;");
        rule(3, "rule " + tower(41, "^a") + " @");
        rule(2, "rule a ^a; rule " + tower(41, "a"));
        system(2, "sym a 0, a 0; rule b -> c; rule X -> Y^");
        system(3, "sym a 0, a 0; rule h(A,B,C,D,E,F,G,H,^I) -> a;");
    }

    private static void symbolsToldTwice() {
        system(4, "sym a 0, b 0, ^a 0;");
        system(4, "sym a 0, b 0, ^b 1, a 1;");
        system(4, "sym a 0, ^a 0, a 0;");
        system(4, "sym a 0, ^a 1; rule X -> Y;");
        system(4, "sym a 0, ^a 1; rule b -> a;");
        system(0, "sym a 0, aa 0, aaa 0, aA 0;");
    }

    private static void namesAndArities() {
        rule(5, "rule ^c -> a;");
        rule(5, "rule f(^c) -> a;");
        rule(5, "rule f(a) -> ^c;");
        rule(5, "rule ^c(d,e) -> e;");
        rule(5, "rule f(X) -> a; rule f(X) -> ^c;");
        rule(6, "rule ^f -> a;");
        rule(6, "rule ^f(a,a) -> a;");
        rule(6, "rule ^a(b) -> a;");
        rule(6, "rule ^g(a) -> a;");
        rule(6, "rule f(g(a,^a(X))) -> c;");
        rule(6, "rule f(a) -> ^b(a);");
        rule(6, "rule ^f(c,c) -> a;");
        rule(5, "rule f(^c) -> f;");
        rule(5, "rule f(g(^c,f)) -> a;");
        rule(5, "rule f(X) -> g(^c,Z);");
        rule(5, "rule X -> ^c;");
        rule(7, "rule ^X -> a; rule c -> a;");
        rule(7, "rule a ^-> b; rule c -> a;");
        rule(6, "rule g(X,Y) -> g(^f,Z);");
        system(0, "sym k 4, a 0; rule k(A,B,C,D) -> D;");
        system(6, "sym k 4, a 0; rule ^k(A,B,C,D,E) -> D;");
        system(6, "sym k 4, a 0; rule ^k(A,B,C) -> C;");
    }

    private static void rulesThatAreNone() {
        rule(7, "rule ^X -> a;");
        rule(7, "rule ^X -> X;");
        rule(7, "rule ^X -> Y;");
        rule(7, "rule f(X) -> ^Y;");
        rule(7, "rule f(X) -> g(X,h(^Y,Z));");
        rule(7, "rule a -> ^X;");
        rule(7, "rule g(X,X) -> h(X,f(^Y));");
        rule(7, "rule f(X) ^-> f(X);");
        rule(7, "rule a^->a;");
        rule(7, "rule f(X)\n\n^-> g(X,X);");
    }

    /** The order on TERMS; SYMBOLS are a < b < f < g < h, g and h with two ARGUMENTS. */
    private static void above() {
        rule(0, "rule b -> a;");
        rule(7, "rule a ^-> b;");
        rule(0, "rule f(X) -> X;");
        rule(0, "rule f(f(X)) -> f(X);");
        rule(7, "rule f(X) ^-> f(f(X));");
        rule(0, "rule g(X,Y) -> f(Y);");
        rule(7, "rule g(X,Y) ^-> g(Y,X);");
        rule(0, "rule g(f(X),Y) -> g(X,f(Y));");
        rule(0, "rule g(f(X),Y) -> g(X,g(X,Y));");
        rule(7, "rule g(X,f(Y)) ^-> g(f(X),Y);");
        rule(0, "rule g(X,f(Y)) -> g(X,Y);");
        rule(7, "rule g(X,Y) ^-> g(X,f(Y));");
        rule(0, "rule g(g(X,Y),Z) -> g(X,g(Y,Z));");
        rule(7, "rule g(X,g(Y,Z)) ^-> g(g(X,Y),Z);");
        rule(0, "rule h(X,Y) -> g(f(X),g(Y,X));");
        rule(7, "rule g(X,Y) ^-> h(X,Y);");
        rule(0, "rule f(h(X,Y)) -> g(X,Y);");
        rule(7, "rule f(g(X,Y)) ^-> h(X,Y);");
        rule(0, "rule g(b,X) -> g(a,g(a,g(a,X)));");
        rule(7, "rule g(a,X) ^-> g(b,X);");
        rule(0, "rule h(f(X),Y) -> h(X,h(X,h(X,Y)));");
        rule(7, "rule h(X,a) ^-> h(X,b);");
        rule(0, "rule f(b) -> f(a);");
        rule(0, "rule h(X,b) -> h(X,a);");
        rule(7, "rule h(b,a) ^-> h(b,h(a,a));");
        rule(0, "rule h(b,a) -> h(a,h(a,a));");
        rule(0, "rule g(h(a,X),Y) -> h(a,X);");
        rule(7, "rule g(h(a,X),Y) ^-> h(X,a);");
        rule(0, "rule g(h(b,X),Y) -> h(a,X);");
        rule(7, "rule g(b,f(X)) ^-> g(f(a),X);");
        String four = "sym a 0, f 1, k 4, h 1; ";
        system(0, four + "rule k(f(X),A,B,C)->k(X,f(A),f(B),f(C));");
        system(7, four + "rule k(f(X),A,B,C)^->k(X,h(A),B,C);");
        system(7, four + "rule k(f(X),A,B,C)^->k(X,A,h(B),C);");
        system(7, four + "rule k(f(X),A,B,C)^->k(X,A,B,h(C));");
        system(7, four + "rule k(f(X),A,B,C)^->f(f(h(X)));");
        system(7, four + "rule k(A,B,C,f(D))^->k(A,B,f(C),D);");
        system(0, four + "rule k(A,B,C,f(D))->k(A,B,C,D);");
        system(0, four + "rule k(A,B,f(C),D)->k(A,B,C,f(D));");
        system(0, four + "rule h(k(A,B,C,D))->k(D,C,B,A);");
        system(7, four + "rule f(k(A,B,C,D))^->k(D,C,B,A);");
        system(0, four + "rule f(k(A,B,C,D))->k(A,B,C,D);");
        String low = "sym k 4, g 2, h 1; ";
        system(0, low + "rule g(X,Y)->k(X,Y,X,Y);");
        system(7, low + "rule g(X,Y)^->k(h(X),Y,X,Y);");
        system(7, low + "rule g(X,Y)^->k(X,h(Y),X,Y);");
        system(7, low + "rule g(X,Y)^->k(X,Y,h(X),Y);");
        system(7, low + "rule g(X,Y)^->k(X,Y,X,h(Y));");
        system(7, low + "rule g(X,Y)^->k(X,Y,X,k(Y,Y,X,h(Y)));");
        system(0, low + "rule h(k(X,Y,X,Y))->k(X,Y,X,k(Y,Y,X,g(Y,X)));");
    }

    private static void whatStaysWithAFault() {
        NarrowHouse x = Check.house("sym a 0, b 0, f 1; rule f(a)->b; rule f(X)->a;");
        Check.due("goal", Check.goal(x, "f(X)=b", false), 0);
        Check.due("expand", x.expand(1), 1);
        Check.due("normal", Check.normal(x, "f(a)"), 1);
        String[] wrong = {"@", "", "sym a 0, a 0;", "sym a 0; rule b -> a;", "sym a 0, b 0, c 0; rule X -> a;", "sym c 0, d 0; rule c -> d;"};
        for (String text : wrong) {
            Check.due("a FAULT in " + text, Check.system(x, text) > 0, true);
            Check.due("SYMBOLS", x.count(0), 3);
            Check.due("RULES", x.count(1), 2);
            Check.due("PAIRS", x.count(2), 2);
            Check.due("pair(1,0)", x.pair(1, 0), 1);
            Check.due("NODES", x.tree(1), 3);
            Check.due("EXPANDED", x.tree(2), 1);
            Check.due("OUT", Check.out(x), "b");
            Check.due("its SYSTEM", Check.normal(x, "f(b)"), 1);
            Check.due("OUT", Check.out(x), "a");
            Check.due("RULE 0", Check.show(x, 0, 0), "f(a)->b");
            Check.due("normal", Check.normal(x, "f(a)"), 1);
        }
        Check.due("another SYSTEM", Check.system(x, "sym c 0, d 0; rule d -> c;"), 0);
        Check.due("SYMBOLS", x.count(0), 2);
        Check.due("RULES", x.count(1), 1);
        Check.due("PAIRS", x.count(2), 0);
        Check.due("no TREE", x.tree(1), 0);
        Check.due("no TREE", x.expand(1), NONE);
        Check.due("no NODE", x.node(0, 0), NONE);
        Check.due("OUT", Check.out(x), "b");
        Check.due("old SYMBOLS", Check.normal(x, "a"), -4);
        Check.due("new SYMBOLS", Check.normal(x, "d"), 1);
    }

    private static void latestFault() {
        NarrowHouse x = Check.house("sym a 0, f 1;");
        Check.due("fault(0)", x.fault(0), 0);
        Check.due("fault(1)", x.fault(1), NONE);
        Check.due("normal", Check.normal(x, "f(b)"), -4);
        Check.due("fault(0)", x.fault(0), 5);
        Check.due("fault(1)", x.fault(1), 2);
        Check.due("unify", Check.unify(x, "a=a@"), -4);
        Check.due("fault(0)", x.fault(0), 1);
        Check.due("fault(1)", x.fault(1), 3);
        Check.due("unify that is NONE", x.unify(1), NONE);
        Check.due("goal that is NONE", x.goal(-1, true), NONE);
        Check.due("normal that is NONE", x.normal(-1), NONE);
        Check.due("system that is NONE", x.system(-1), NONE);
        Check.due("fault(0)", x.fault(0), 1);
        Check.due("fault(1)", x.fault(1), 3);
        Check.due("goal", Check.goal(x, "f(a)=f", false), 6);
        Check.due("fault(0)", x.fault(0), 6);
        Check.due("fault(1)", x.fault(1), 5);
        Check.due("goal", Check.goal(x, "X=a", false), 0);
        Check.due("fault(0)", x.fault(0), 0);
        Check.due("fault(1)", x.fault(1), NONE);
    }
}
