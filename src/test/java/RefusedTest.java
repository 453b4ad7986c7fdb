/** "What is refused changes nothing but what is told", and what each call leaves as it was. */
final class RefusedTest {
    private static final int NONE = NarrowHouse.NONE;
    private static final String PLUS = "sym z 0, s 1, p 2; rule p(z,Y)->Y; rule p(s(X),Y)->s(p(X,Y)); rule p(X,z)->X;";
    private static final int[] WILD = {Integer.MIN_VALUE, Integer.MIN_VALUE + 1, -1600, -2, -1, 1601, 1 << 16, 1 << 30, Integer.MAX_VALUE};
    private static final String[] STATES = {"new", "a FAULT alone", "a SYSTEM", "a TREE", "a CLOSED TREE", "a FULL TREE"};

    public static void main(String[] args) {
        for (int state = 0; state < STATES.length; state++) {
            refusedTexts(state);
            refusedFeeds(state);
            refusedExpands(state);
            questions(state);
            faults(state);
        }
        withoutSystem();
        noFaultButNoAnswer();
        whatNormalLeaves();
        whatUnifyLeaves();
        whatGoalLeaves();
        whatExpandLeaves();
        whatShowLeaves();
        whatSystemLeaves();
        fiveHundredAndTwelveCalls();
        Check.end();
    }

    private static NarrowHouse house(int state) {
        NarrowHouse x = new NarrowHouse();
        if (state >= 1) Check.due("a FAULT", Check.system(x, "sym z 0; rule z->@"), 1);
        if (state >= 2) {
            Check.due("system", Check.system(x, PLUS), 0);
            Check.due("normal", Check.normal(x, "p(s(z),X)"), 2);
        }
        if (state == 3) {
            Check.due("goal", Check.goal(x, "p(X,Y)=s(s(z))", false), 0);
            Check.due("expand", x.expand(2), 2);
        }
        if (state == 4) {
            Check.due("goal", Check.goal(x, "p(s(z),z)=X", true), 0);
            Check.due("expand", x.expand(100) < 100, true);
        }
        if (state == 5) {
            Check.due("goal", Check.goal(x, "p(X,p(Y,Z))=W", true), 0);
            for (int k = 0; k < 10; k++) x.expand(100);
            Check.due("FULL", x.tree(0), 3);
        }
        return x;
    }

    /** All that can be asked for without changing anything, but for fault(). */
    private static String all(NarrowHouse x) {
        return Check.out(x) + " " + x.count(5) + allButOut(x);
    }

    private static String allButOut(NarrowHouse x) {
        StringBuilder told = new StringBuilder();
        for (int what = 0; what <= 4; what++) told.append(" ").append(x.count(what));
        for (int k = 0; k <= x.count(2); k++) for (int what = 0; what <= 3; what++) told.append(" ").append(x.pair(k, what));
        for (int what = 0; what <= 6; what++) told.append(" ").append(x.tree(what));
        for (int i = 0; i <= x.tree(1); i += i < 20 ? 1 : 17) for (int what = 0; what <= 7; what++) told.append(" ").append(x.node(i, what));
        for (int k = 0; k <= x.tree(3); k += k < 10 ? 1 : 13) {
            for (int what = 0; what <= 1; what++) told.append(" ").append(x.answer(k, what));
            told.append(x.covers(0, k)).append(x.covers(k, 0));
        }
        return told.toString();
    }

    private static String faultOf(NarrowHouse x) {
        return x.fault(0) + " at " + x.fault(1);
    }

    /** What SHOWS, too; OUT is another one then. */
    private static String shown(NarrowHouse x) {
        StringBuilder told = new StringBuilder();
        for (int what = 0; what <= 4; what++) for (int k = 0; k < 5; k++) told.append(x.show(what, k)).append(Check.out(x)).append(" ");
        return told.toString();
    }

    private static String symbolOf(int state) {
        return state < 2 ? "sym z 0;" : "z";
    }

    /** Of what is on the tape in this state, the text can still be taken. */
    private static void tapeIsThere(NarrowHouse x, int state, String text) {
        int got = state < 2 ? x.system(text.length()) : x.normal(text.length());
        Check.due("the tape's text in state " + STATES[state], got, 0);
    }

    private static void refusedTexts(int state) {
        NarrowHouse x = house(state);
        String before = all(x), fault = faultOf(x);
        String text = symbolOf(state);
        for (int held = 0; held <= 20; held += 20) {
            if (held > 0) Check.feed(x, text);
            for (int n : WILD) textsAreRefused(x, n);
            textsAreRefused(x, held + 1);
            textsAreRefused(x, held + 20);
            textsAreRefused(x, 1600);
            Check.due("all is as it was: " + STATES[state], all(x), before);
            Check.due("fault() too", faultOf(x), fault);
        }
        tapeIsThere(x, state, text);
    }

    private static void textsAreRefused(NarrowHouse x, int n) {
        Check.due("system(" + n + ")", x.system(n), NONE);
        Check.due("normal(" + n + ")", x.normal(n), NONE);
        Check.due("unify(" + n + ")", x.unify(n), NONE);
        Check.due("goal(" + n + ",true)", x.goal(n, true), NONE);
        Check.due("goal(" + n + ",false)", x.goal(n, false), NONE);
    }

    private static void refusedFeeds(int state) {
        NarrowHouse x = house(state);
        String before = all(x), fault = faultOf(x);
        String text = symbolOf(state);
        Check.feed(x, text);
        for (int k = 2; k <= 80; k++) Check.due("feed", x.feed(0x20202020, 0x20202020, 0x20202020, 0x20202020, 0x20202020), 20 * k);
        for (int k = 0; k < 3; k++) {
            Check.due("feed above 1,600", x.feed(-1, -1, -1, -1, -1), NONE);
            Check.due("system(1601)", x.system(1601), NONE);
        }
        Check.due("all is as it was: " + STATES[state], all(x), before);
        Check.due("fault() too", faultOf(x), fault);
        int got = state < 2 ? x.system(1600) : x.normal(1600);
        Check.due("1,600 bytes as they were fed", got, 0);
        Check.due("there is room then", x.feed(-1, -1, -1, -1, -1), 20);
    }

    private static void refusedExpands(int state) {
        NarrowHouse x = house(state);
        String before = all(x), fault = faultOf(x);
        Check.feed(x, symbolOf(state));
        for (int n : WILD) Check.due("expand(" + n + ")", x.expand(n), NONE);
        Check.due("expand(0)", x.expand(0), NONE);
        Check.due("expand(101)", x.expand(101), NONE);
        if (state < 3) for (int n : new int[] {1, 2, 99, 100}) Check.due("expand without a TREE", x.expand(n), NONE);
        if (state > 3) for (int n : new int[] {1, 2, 99, 100}) Check.due("none waits, or FULL", x.expand(n), 0);
        Check.due("all is as it was: " + STATES[state], all(x), before);
        Check.due("fault() too", faultOf(x), fault);
        tapeIsThere(x, state, symbolOf(state));
    }

    /** What only asks changes nothing, whatever it asks for. */
    private static void questions(int state) {
        NarrowHouse x = house(state);
        String before = all(x), fault = faultOf(x);
        Check.feed(x, symbolOf(state));
        int[] any = {Integer.MIN_VALUE, -1, 0, 1, 2, 3, 7, 8, 200, 1000, Integer.MAX_VALUE};
        for (int a : any) {
            x.fault(a);
            x.count(a);
            x.tree(a);
            x.out(a);
            for (int b : any) {
                x.pair(a, b);
                x.node(a, b);
                x.answer(a, b);
                x.covers(a, b);
            }
        }
        for (int a : any) {
            Check.due("show(5," + a + ")", x.show(5, a), NONE);
            Check.due("show(-1," + a + ")", x.show(-1, a), NONE);
        }
        for (int what = 0; what <= 4; what++) Check.due("show(" + what + ",1000)", x.show(what, 1000), NONE);
        Check.due("all is as it was: " + STATES[state], all(x), before);
        Check.due("fault() too", faultOf(x), fault);
        tapeIsThere(x, state, symbolOf(state));
    }

    /** A FAULT leaves all but fault(), and the tape, which is empty. */
    private static void faults(int state) {
        NarrowHouse x = house(state);
        NarrowHouse same = house(state);
        String before = all(x);
        String[] texts = {"", "@", "sym", "sym z 0", "sym z 0, z 0;", "sym z 0; rule q->z;", "sym z 0; rule z(z)->z;", "sym z 0; rule z->z;"};
        int[] kinds = {2, 1, 2, 2, 4, 5, 6, 7};
        for (int k = 0; k < texts.length; k++) {
            Check.due("system(" + texts[k] + ")", Check.system(x, texts[k]), kinds[k]);
            Check.due("fault(0)", x.fault(0), kinds[k]);
            Check.due("all is as it was: " + STATES[state], all(x), before);
            Check.due("the tape is empty", x.system(1), NONE);
        }
        if (state < 2) return;
        String[] sides = {"", "@", "z z", "s(A,B,C,D,E,F,G)", "q", "s"};
        int[] sideKinds = {2, 1, 2, 3, 5, 6};
        for (int k = 0; k < sides.length; k++) {
            Check.due("normal(" + sides[k] + ")", Check.normal(x, sides[k]), -4);
            Check.due("fault(0)", x.fault(0), sideKinds[k]);
            Check.due("unify", Check.unify(x, "z=" + sides[k]), -4);
            Check.due("fault(0)", x.fault(0), sideKinds[k]);
            Check.due("goal", Check.goal(x, "z=" + sides[k], true), sideKinds[k]);
            Check.due("fault(0)", x.fault(0), sideKinds[k]);
            Check.due("all is as it was: " + STATES[state], all(x), before);
            Check.due("the tape is empty", x.normal(1), NONE);
        }
        Check.due("expand as ever", x.expand(1), same.expand(1));
        Check.due("all as ever", all(x), all(same));
        Check.due("shown as ever", shown(x), shown(same));
    }

    /** "NONE as system(), or without a SYSTEM": a SYSTEM with a FAULT is none, and the tape is not taken. */
    private static void withoutSystem() {
        NarrowHouse x = new NarrowHouse();
        Check.due("a FAULT", Check.system(x, "sym a 0; rule a->a;"), 7);
        String fault = faultOf(x);
        Check.feed(x, "a=a  sym a 0;");
        for (int n = 0; n <= 20; n++) {
            Check.due("normal(" + n + ")", x.normal(n), NONE);
            Check.due("unify(" + n + ")", x.unify(n), NONE);
            Check.due("goal(" + n + ")", x.goal(n, false), NONE);
        }
        Check.due("fault() stays", faultOf(x), fault);
        Check.due("the tape stays", x.feed(0x20202020, 0x20202020, 0x20202020, 0x20202020, 0x20202020), 40);
        Check.due("a FAULT", x.system(40), 2);
        Check.due("system", Check.system(x, "sym a 0;"), 0);
        Check.due("normal", Check.normal(x, "a"), 0);
    }

    /** -2, -3, 0 and 2 are no FAULTS, but OUT stays, and so does the TREE. */
    private static void noFaultButNoAnswer() {
        String system = "sym z 0, s 1, c 4, v 2, u 1; rule v(z,Y)->Y; rule v(s(X),Y)->v(X,v(X,Y)); "
            + "rule u(X)->c(X,c(X,X,X,X),c(X,X,X,X),c(X,X,X,X));";
        NarrowHouse x = Check.house(system);
        Check.due("goal", Check.goal(x, "v(X,z)=Y", false), 0);
        x.expand(3);
        Check.due("normal", Check.normal(x, "s(z)"), 0);
        String before = all(x);
        String[] terms = {"u(u(u(z)))", "v(s(s(s(s(s(s(s(s(s(s(z)))))))))),z)"};
        for (int k = 0; k < 2; k++) {
            Check.due("normal(" + terms[k] + ")", Check.normal(x, terms[k]), -2 - k);
            Check.due("fault()", faultOf(x), "0 at -1");
            Check.due("all is as it was", all(x), before);
        }
        String[] goals = {"z=s(X)", "c(X,Y,Z,W)=c(c(Y,Y,Y,Y),c(Z,Z,Z,Z),c(W,W,W,W),c(V,V,V,V))"};
        for (int k = 0; k < 2; k++) {
            Check.due("unify(" + goals[k] + ")", Check.unify(x, goals[k]), 2 * k);
            Check.due("fault()", faultOf(x), "0 at -1");
            Check.due("all is as it was", all(x), before);
        }
    }

    private static void whatNormalLeaves() {
        for (int state = 2; state < STATES.length; state++) {
            NarrowHouse x = house(state);
            String before = allButOut(x);
            Check.due("normal", Check.normal(x, "p(s(s(z)),z)"), 3);
            Check.due("OUT", Check.out(x), "s(s(z))");
            Check.due("all but OUT: " + STATES[state], allButOut(x), before);
            NarrowHouse same = house(state);
            Check.due("shown as ever", shown(x), shown(same));
        }
    }

    private static void whatUnifyLeaves() {
        for (int state = 2; state < STATES.length; state++) {
            NarrowHouse x = house(state);
            String before = allButOut(x);
            Check.due("unify", Check.unify(x, "p(A,B)=p(B,s(C))"), 1);
            Check.due("OUT", Check.out(x), "A=s(C),B=s(C),C=C");
            Check.due("all but OUT: " + STATES[state], allButOut(x), before);
            NarrowHouse same = house(state);
            Check.due("expand as ever", x.expand(3), same.expand(3));
            Check.due("shown as ever", shown(x), shown(same));
        }
    }

    private static void whatGoalLeaves() {
        for (int state = 2; state < STATES.length; state++) {
            NarrowHouse x = house(state);
            String out = Check.out(x);
            Check.due("goal", Check.goal(x, "p(A,B)=C", state % 2 == 0), 0);
            Check.due("OUT", Check.out(x), out);
            Check.due("RULES", x.count(1), 3);
            Check.due("PAIRS", x.count(2), house(2).count(2));
            Check.due("NODES", x.tree(1), 1);
            Check.due("EXPANDED", x.tree(2), 0);
            Check.due("ANSWERS", x.tree(3), 1);
            Check.due("VARIABLES", x.tree(6), 3);
            Check.due("show(3,0)", Check.show(x, 3, 0), "A=A,B=B,C=C");
        }
    }

    private static void whatExpandLeaves() {
        NarrowHouse x = house(3);
        String out = Check.out(x), fault = faultOf(x);
        Check.feed(x, "s(z)");
        Check.due("expand", x.expand(3), 3);
        Check.due("OUT", Check.out(x), out);
        Check.due("fault()", faultOf(x), fault);
        Check.due("the tape", x.normal(4), 0);
        Check.due("OUT", Check.out(x), "s(z)");
    }

    private static void whatShowLeaves() {
        NarrowHouse x = house(3);
        String before = allButOut(x), fault = faultOf(x);
        Check.feed(x, "s(z)");
        shown(x);
        Check.due("all but OUT", allButOut(x), before);
        Check.due("fault()", faultOf(x), fault);
        Check.due("the tape", x.normal(4), 0);
    }

    /** "it is the house's (there is no TREE then)". */
    private static void whatSystemLeaves() {
        for (int state = 0; state < STATES.length; state++) {
            NarrowHouse x = house(state);
            String out = Check.out(x);
            Check.due("system", Check.system(x, "sym a 0, b 0; rule b->a;"), 0);
            Check.due("OUT", Check.out(x), out);
            Check.due("fault()", faultOf(x), "0 at -1");
            NarrowHouse fresh = Check.house("sym a 0, b 0; rule b->a;");
            Check.due("all but OUT as in a new house: " + STATES[state], allButOut(x), allButOut(fresh));
            Check.due("shown so too", shown(x), shown(fresh));
            Check.due("the new SYMBOLS", Check.goal(x, "b=X", false), 0);
            Check.due("expand", x.expand(9), 2);
            Check.due("show(2,1)", Check.show(x, 2, 1), "a=X");
        }
    }

    /** "at most 512 calls": the last one answers as the first one did. */
    private static void fiveHundredAndTwelveCalls() {
        NarrowHouse x = new NarrowHouse();
        int calls = 0;
        String system = "sym z 0, s 1, p 2; rule p(z,Y)->Y; rule p(s(X),Y)->s(p(X,Y)); ";
        while (calls + 16 <= 512) {
            Check.feed(x, system);
            calls += (system.length() + 19) / 20;
            Check.due("system", x.system(system.length()), 0);
            Check.feed(x, "p(X,p(Y,Z))=W");
            Check.due("goal", x.goal(13, calls % 2 == 0), 0);
            calls += 3;
            int done = 0;
            for (int k = 0; k < 7; k++) done += x.expand(100);
            Check.due("EXPANDED", x.tree(2), done);
            Check.due("FULL", x.tree(0), 3);
            calls += 9;
        }
        while (calls < 512) {
            Check.due("FULL still", x.tree(0), 3);
            calls++;
        }
    }
}
