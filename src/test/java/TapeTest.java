/** Promises 1 and 2: a new object, and the tape. */
final class TapeTest {
    private static final int NONE = NarrowHouse.NONE;

    public static void main(String[] args) {
        newObject();
        refusedCallsTellNoFault();
        bytesComeHighestFirst();
        bytesAboveLetters();
        sixteenHundredBytes();
        tapeIsEmptiedByEachText();
        housesShareNothing();
        Check.end();
    }

    private static void newObject() {
        NarrowHouse x = new NarrowHouse();
        Check.due("NONE", NarrowHouse.NONE, -1);
        for (int what = 0; what <= 5; what++) Check.due("new count(" + what + ")", x.count(what), 0);
        for (int what = 0; what <= 6; what++) Check.due("new tree(" + what + ")", x.tree(what), 0);
        Check.due("new count(-1)", x.count(-1), NONE);
        Check.due("new count(6)", x.count(6), NONE);
        Check.due("new tree(-1)", x.tree(-1), NONE);
        Check.due("new tree(7)", x.tree(7), NONE);
        for (int what = -1; what <= 8; what++) {
            Check.due("new fault", x.fault(what), NONE);
            Check.due("new pair", x.pair(0, what), NONE);
            Check.due("new node", x.node(0, what), NONE);
            Check.due("new answer", x.answer(0, what), NONE);
            Check.due("new show", x.show(what, 0), NONE);
        }
        Check.due("new covers", x.covers(0, 0), false);
        Check.due("new out(0)", x.out(0), NONE);
        Check.due("new out(-1)", x.out(-1), NONE);
        Check.due("new expand(1)", x.expand(1), NONE);
        Check.due("new system(1)", x.system(1), NONE);
    }

    private static void refusedCallsTellNoFault() {
        NarrowHouse x = new NarrowHouse();
        Check.feed(x, "a=a");
        Check.due("normal without a SYSTEM", x.normal(1), NONE);
        Check.due("unify without a SYSTEM", x.unify(3), NONE);
        Check.due("goal without a SYSTEM", x.goal(3, true), NONE);
        Check.due("system(-1)", x.system(-1), NONE);
        Check.due("system(21)", x.system(21), NONE);
        Check.due("fault(0) ahead of any", x.fault(0), NONE);
        Check.due("fault(1) ahead of any", x.fault(1), NONE);
        Check.due("the tape is as it was", x.feed(0, 0, 0, 0, 0), 40);
        Check.due("system of that", x.system(40), 2);
        Check.due("fault(0)", x.fault(0), 2);
        Check.due("fault(1)", x.fault(1), 0);
        Check.due("system(1) on the empty tape", x.system(1), NONE);
        Check.due("fault(0) stays", x.fault(0), 2);
        Check.due("a refused SYSTEM is none", x.normal(0), NONE);
    }

    private static void bytesComeHighestFirst() {
        NarrowHouse x = new NarrowHouse();
        int[] w = {0x73796d20, 0x6162636c, 0x20302c20, 0x6420343b, 0x20202020};
        Check.due("feed", x.feed(w[0], w[1], w[2], w[3], w[4]), 20);
        Check.due("system(sym abcl 0, d 4;)", x.system(16), 0);
        Check.due("two SYMBOLS", x.count(0), 2);
    }

    private static void bytesAboveLetters() {
        NarrowHouse x = new NarrowHouse();
        x.feed(0x73796d20, 0x6120303b, 0x20ff2020, 0x80808080, -1);
        Check.due("byte 255", x.system(20), 1);
        Check.due("its place", x.fault(1), 9);
        x.feed(0x73796d20, 0x6120303b, 0x20202080, 0, 0);
        Check.due("byte 128", x.system(12), 1);
        Check.due("its place", x.fault(1), 11);
        x.feed(0x73796d20, 0x6120303b, 0, 0, 0);
        Check.due("byte 0", x.system(9), 1);
        Check.due("its place", x.fault(1), 8);
        x.feed(0x73796d20, 0x6120303b, 0x0a0a200a, 0x09090909, 0);
        Check.due("bytes 10 and 32 are blanks", x.system(12), 0);
        x.feed(0x73796d20, 0x6120303b, 0x0a0a200a, 0x09090909, 0);
        Check.due("byte 9 is none", x.system(13), 1);
        Check.due("its place", x.fault(1), 12);
    }

    private static void sixteenHundredBytes() {
        NarrowHouse x = new NarrowHouse();
        for (int k = 1; k <= 79; k++) Check.due("feed " + k, x.feed(0x20202020, 0x20202020, 0x20202020, 0x20202020, 0x20202020), 20 * k);
        Check.due("feed 80", x.feed(0x20202020, 0x20202020, 0x20202073, 0x796d2061, 0x2030203b), 1600);
        Check.due("feed 81", x.feed(0x73737373, 0x73737373, 0, 0, 0), NONE);
        Check.due("feed 82", x.feed(0x73737373, 0x73737373, 0, 0, 0), NONE);
        Check.due("system(1601)", x.system(1601), NONE);
        Check.due("system(1600)", x.system(1600), 0);
        Check.due("feed then", x.feed(0, 0, 0, 0, 0), 20);
        StringBuilder text = new StringBuilder("sym a 0;");
        while (text.length() < 1599) text.append(' ');
        Check.due("a fault at the last byte", Check.system(new NarrowHouse(), text + "x"), 2);
        NarrowHouse y = new NarrowHouse();
        Check.feed(y, text + "x");
        Check.due("system(1600)", y.system(1600), 2);
        Check.due("at", y.fault(1), 1599);
        Check.feed(y, text + "-");
        Check.due("half a sign at the last byte", y.system(1600), 1);
        Check.due("at", y.fault(1), 1599);
    }

    private static void tapeIsEmptiedByEachText() {
        NarrowHouse x = new NarrowHouse();
        Check.feed(x, "sym a 0; and more behind it");
        Check.due("the first bytes alone", x.system(8), 0);
        Check.due("all is gone", x.system(1), NONE);
        Check.feed(x, "a but this is nothing");
        Check.due("normal", x.normal(1), 0);
        Check.due("all is gone", x.normal(1), NONE);
        Check.feed(x, "a=a, this is nothing");
        Check.due("unify", x.unify(3), 1);
        Check.due("all is gone", x.unify(1), NONE);
        Check.feed(x, "a=a, this is nothing");
        Check.due("goal", x.goal(3, false), 0);
        Check.due("all is gone", x.goal(1, false), NONE);
        String cut = "sym a 0; rule a -> a;";
        int[][] cuts = {{0, 2, 0}, {2, 2, 0}, {3, 2, 3}, {4, 2, 4}, {6, 2, 6}, {7, 2, 7}, {12, 2, 9}, {13, 2, 13}, {17, 1, 16}, {18, 2, 18}, {21, 7, 16}};
        for (int[] one : cuts) {
            Check.feed(x, cut);
            Check.due("the first " + one[0] + " bytes", x.system(one[0]), one[1]);
            Check.due("at", x.fault(1), one[2]);
        }
        for (int k = 0; k < 4; k++) {
            Check.feed(x, "@ @ @ @ @ @ @ @ @ @ ");
            int got = k == 0 ? x.system(3) : k == 1 ? x.normal(3) : k == 2 ? x.unify(3) : x.goal(3, true);
            Check.due("a fault", got, k == 0 || k == 3 ? 1 : -4);
            Check.due("the tape is empty then too", x.feed(0, 0, 0, 0, 0), 20);
            Check.due("and again", x.system(0), 2);
        }
    }

    private static void housesShareNothing() {
        NarrowHouse x = Check.house("sym a 0, f 1; rule f(X)->a;");
        NarrowHouse y = Check.house("sym a 0, f 1; rule f(f(X))->X;");
        Check.due("x", Check.normal(x, "f(f(f(a)))"), 3);
        Check.due("y", Check.normal(y, "f(f(f(a)))"), 1);
        Check.due("out of x", Check.out(x), "a");
        Check.due("out of y", Check.out(y), "f(a)");
    }
}
