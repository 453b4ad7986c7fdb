/** Any call with any arguments in any state: none throws, none hangs, and two houses that are asked the same answer the same. */
final class AnyCallTest {
    private static final String[] TEXTS = {
        "sym z 0, s 1, p 2; rule p(z,Y)->Y; rule p(s(X),Y)->s(p(X,Y));",
        "sym a 0, c 4, d 1; rule d(X)->c(X,X,X,X);", "sym a 0;", "sym",
        "sym e 0, m 2, i 1; rule m(e,X)->X; rule m(i(X),X)->e; rule m(m(X,Y),Z)->m(X,m(Y,Z));",
        "p(X,Y)=p(Y,X)", "p(X,s(Y))=s(s(s(Z)))", "d(d(d(X)))=Y", "m(X,m(Y,i(X)))=m(i(Z),e)", "a=a", "X=Y", "p(s(s(z)),s(z))", "d(d(d(d(a))))",
        "m(i(m(X,Y)),m(X,Y))", "(((((((((", ")", "p(p(p(p(p(", "X", "", "c(A,B,C,D)=c(c(B,B,B,B),c(C,C,C,C),c(D,D,D,D),c(E,E,E,E))",
    };
    private static final int[] WILD = {0, 1, -1, 2, 3, 4, 5, 6, 7, 8, 9, 10, 41, 99, 100, 101, 199, 200, 299, 300, 999, 1000, 1599, 1600, 1601,
        32767, 1 << 30, Integer.MAX_VALUE, Integer.MIN_VALUE, Integer.MIN_VALUE + 1, -2};

    private final Check.Dice dice;
    private final NarrowHouse[] houses = {new NarrowHouse(), new NarrowHouse()};
    private int length;

    private AnyCallTest(int seed) {
        dice = new Check.Dice(seed);
    }

    public static void main(String[] args) {
        for (int seed = 0; seed < 400; seed++) {
            AnyCallTest test = new AnyCallTest(seed);
            for (int k = 0; k < 512; k++) test.call();
        }
        noise();
        Check.end();
    }

    private int number() {
        int kind = dice.below(8);
        if (kind == 0) return WILD[dice.below(WILD.length)];
        return kind < 5 ? dice.below(4) : dice.below(30) - 3;
    }

    private int textLength() {
        return dice.once(5) ? number() : length;
    }

    private void call() {
        int what = dice.below(20), a = number(), b = number(), n = textLength();
        boolean full = dice.once(2);
        if (what >= 16) {
            text(TEXTS[dice.below(TEXTS.length)]);
            return;
        }
        int[] got = new int[2];
        for (int k = 0; k < 2; k++) got[k] = one(houses[k], what, a, b, n, full);
        Check.due("call " + what, got[0], got[1]);
    }

    private void text(String text) {
        length = text.length();
        if (dice.once(4)) for (NarrowHouse house : houses) house.system(0);
        for (NarrowHouse house : houses) Check.feed(house, text);
        if (text.startsWith("sym") && dice.once(2)) for (NarrowHouse house : houses) house.system(length);
    }

    private static int one(NarrowHouse x, int what, int a, int b, int n, boolean full) {
        switch (what) {
            case 0: return x.feed(a, b, n, a, b);
            case 1: return x.system(n);
            case 2: return x.fault(a);
            case 3: return x.count(a);
            case 4: return x.pair(a, b);
            case 5: return x.normal(n);
            case 6: return x.unify(n);
            case 7: return x.goal(n, full);
            case 8: return x.expand(Math.abs(a % 7));
            case 9: return x.tree(a);
            case 10: return x.node(a, b);
            case 11: return x.answer(a, b);
            case 12: return x.covers(a, b) ? 1 : 0;
            case 13: return x.show(a, b);
            case 14: return x.out(a);
            default: return x.expand(a);
        }
    }

    /** Texts of any bytes, and of any TOKENS. */
    private static void noise() {
        Check.Dice dice = new Check.Dice(77);
        String[] tokens = {"sym", "rule", "a", "f", "g", "X", "Y", "0", "1", "2", "(", ")", ",", ";", "=", "->", " ", "\n", "a 0", "f 1", "g 2"};
        NarrowHouse x = new NarrowHouse();
        for (int k = 0; k < 4000; k++) {
            if (k % 50 == 0) {
                x = new NarrowHouse();
                Check.system(x, "sym a 0, f 1, g 2; rule f(X)->a;");
            }
            StringBuilder text = new StringBuilder();
            int count = dice.below(k % 3 == 0 ? 400 : 12);
            for (int n = 0; n < count && text.length() < 1560; n++) {
                if (k % 3 == 1) text.append((char) dice.below(256));
                else text.append(tokens[dice.below(tokens.length)]);
            }
            Check.feed(x, text.toString());
            int kind = k % 4;
            int n = text.length();
            int got = kind == 0 ? x.system(n) : kind == 1 ? x.normal(n) : kind == 2 ? x.unify(n) : x.goal(n, true);
            Check.due("an answer that can be", got >= -4 && got <= 7, true);
            int fault = x.fault(0);
            Check.due("a place with a FAULT alone", x.fault(1) != NarrowHouse.NONE, fault > 0);
            Check.due("the place is in the text", x.fault(1) <= n, true);
        }
    }
}
