/** The example in README.md: what is written there beside each call is what the call answers. */
final class ExampleTest {
    private static final int NONE = NarrowHouse.NONE;
    private static final String SYSTEM = "sym z 0, s 1, p 2; rule p(z,Y)->Y; rule p(s(X),Y)->s(p(X,Y));";

    public static void main(String[] args) {
        system();
        terms();
        narrowing();
        faults();
        Check.end();
    }

    private static NarrowHouse fed(NarrowHouse x, String text, int length) {
        Check.due("length of " + text, text.length(), length);
        Check.feed(x, text);
        return x;
    }

    private static NarrowHouse ready() {
        NarrowHouse x = new NarrowHouse();
        Check.due("system(61)", fed(x, SYSTEM, 61).system(61), 0);
        return x;
    }

    private static void system() {
        NarrowHouse x = new NarrowHouse();
        Check.due("the first twenty bytes", x.feed(0x73796d20, 0x7a20302c, 0x20732031, 0x2c207020, 0x323b2072), 20);
        String rest = SYSTEM.substring(20);
        Check.due("system(61)", fed(x, rest, 41).system(61), 0);
        Check.due("count(0)", x.count(0), 3);
        Check.due("count(1)", x.count(1), 2);
        Check.due("count(2)", x.count(2), 0);
        Check.due("show(0, 1)", x.show(0, 1), 20);
        Check.due("OUT", Check.out(x), "p(s(X),Y)->s(p(X,Y))");
    }

    private static void terms() {
        NarrowHouse x = ready();
        Check.due("normal(12)", fed(x, "p(s(z),s(z))", 12).normal(12), 2);
        Check.due("OUT", Check.out(x), "s(s(z))");
        Check.due("unify(16)", fed(x, "p(X,s(X))=p(Y,Z)", 16).unify(16), 1);
        Check.due("OUT", Check.out(x), "X=X,Y=X,Z=s(X)");
    }

    private static void narrowing() {
        NarrowHouse x = ready();
        Check.due("goal(11, false)", fed(x, "p(X,Y)=s(z)", 11).goal(11, false), 0);
        Check.due("expand(100)", x.expand(100), 100);
        Check.due("tree(0)", x.tree(0), 1);
        Check.due("tree(3)", x.tree(3), 2);
        Check.due("show(4, 0)", x.show(4, 0), 10);
        Check.due("OUT", Check.out(x), "X=z,Y=s(z)");
        Check.due("out(0)", x.out(0), 'X');
        Check.due("out(10)", x.out(10), NONE);
        Check.due("show(4, 1)", Check.show(x, 4, 1), "X=s(z),Y=z");
        Check.due("node(1, 7)", x.node(1, 7), 0);
        Check.due("answer(0, 1)", x.answer(0, 1), 1);
        Check.due("covers(0, 1)", x.covers(0, 1), false);
    }

    private static void faults() {
        NarrowHouse x = ready();
        Check.due("goal(6, false)", fed(x, "p(X)=z", 6).goal(6, false), 6);
        Check.due("fault(0)", x.fault(0), 6);
        Check.due("fault(1)", x.fault(1), 0);
        Check.due("the tape is empty", x.goal(1, false), NONE);
        Check.due("fault(0) stays", x.fault(0), 6);
    }
}
