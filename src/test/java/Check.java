/** What the tests share: a house that is spoken to in texts, and the counting of what is not as due. */
final class Check {
    private static int wrong = 0;
    private static int asked = 0;

    private Check() {
    }

    static void due(String what, long got, long want) {
        asked++;
        if (got == want) return;
        wrong++;
        System.out.println(what + " answered " + got + ", due is " + want);
    }

    static void due(String what, boolean got, boolean want) {
        due(what, got ? 1 : 0, want ? 1 : 0);
    }

    static void due(String what, String got, String want) {
        asked++;
        if (got.equals(want)) return;
        wrong++;
        System.out.println(what + " is <" + got + ">, due is <" + want + ">");
    }

    static void end() {
        System.out.println(wrong == 0 ? asked + " answers, all as due" : wrong + " of " + asked + " answers are not as due");
        if (wrong != 0) System.exit(1);
    }

    /** Feeds a text, with blanks behind it up to a whole feed. */
    static void feed(NarrowHouse house, String text) {
        for (int from = 0; from < text.length(); from += 20) {
            house.feed(word(text, from), word(text, from + 4), word(text, from + 8), word(text, from + 12), word(text, from + 16));
        }
    }

    static int word(String text, int from) {
        int word = 0;
        for (int k = from; k < from + 4; k++) word = word << 8 | (k < text.length() ? text.charAt(k) & 255 : ' ');
        return word;
    }

    static NarrowHouse house(String system) {
        NarrowHouse house = new NarrowHouse();
        due("system(" + system + ")", system(house, system), 0);
        return house;
    }

    static int system(NarrowHouse house, String text) {
        feed(house, text);
        return house.system(text.length());
    }

    static int normal(NarrowHouse house, String text) {
        feed(house, text);
        return house.normal(text.length());
    }

    static int unify(NarrowHouse house, String text) {
        feed(house, text);
        return house.unify(text.length());
    }

    static int goal(NarrowHouse house, String text, boolean full) {
        feed(house, text);
        return house.goal(text.length(), full);
    }

    static String out(NarrowHouse house) {
        StringBuilder text = new StringBuilder();
        for (int i = 0; house.out(i) != NarrowHouse.NONE; i++) text.append((char) house.out(i));
        return text.toString();
    }

    static String show(NarrowHouse house, int what, int k) {
        int length = house.show(what, k);
        if (length == NarrowHouse.NONE) return "NONE";
        String text = out(house);
        due("length of " + text, Math.min(length, 1000), text.length());
        return text;
    }

    /** Numbers that are always the same ones for the same seed. */
    static final class Dice {
        private long state;

        Dice(long seed) {
            state = seed * 0x9E3779B97F4A7C15L + 1;
        }

        int below(int n) {
            state = state * 6364136223846793005L + 1442695040888963407L;
            return (int) ((state >>> 33) % n);
        }

        boolean once(int in) {
            return below(in) == 0;
        }
    }
}
