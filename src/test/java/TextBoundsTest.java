/** The bounds that the words on TERMS AND TEXTS name, and promises 2 to 4. A ^ in a text marks the place that is due. */
final class TextBoundsTest {
    private static final int NONE = NarrowHouse.NONE;
    private static final String SYMBOLS = "sym a 0, f 1, g 2; ";

    public static void main(String[] args) {
        eachByteAlone();
        eachByteBehindAToken();
        blanks();
        eightSigns();
        aTokenAsLongAsTheTape();
        digits();
        wordsThatAreNoNames();
        eachTokenAtEachPlaceOfASystem();
        eachTokenAtEachPlaceOfATerm();
        eachTokenAtEachPlaceOfAGoal();
        theEndOfASystem();
        theEndOfATermAndOfAGoal();
        theTextEndsBeforeTheTape();
        seventeenSymbols();
        seventeenRules();
        ninthVariable();
        seventhVariable();
        fortyOneSigns();
        oneTokenTwoFaults();
        symbolsTold();
        sixteenHundred();
        feedTakesAnyInt();
        Check.end();
    }

    private static void system(int kind, String marked) {
        NarrowHouse x = new NarrowHouse();
        String text = marked.replace("^", "");
        Check.due("system(" + marked + ")", Check.system(x, text), kind);
        fault(x, marked, kind);
    }

    private static void fault(NarrowHouse x, String marked, int kind) {
        Check.due("fault(0) of " + marked, x.fault(0), kind);
        Check.due("fault(1) of " + marked, x.fault(1), marked.indexOf('^'));
    }

    /** The same TERM is asked of normal(), and as a side of a GOAL of unify() and goal(). */
    private static void term(int kind, String marked) {
        NarrowHouse x = Check.house(SYMBOLS);
        String text = marked.replace("^", "");
        Check.due("normal(" + marked + ")", Check.normal(x, text) >= 0, kind == 0);
        fault(x, marked, kind);
        goal(kind, "a=" + marked);
        if (kind != 2) goal(kind, marked + "=a");
    }

    private static void goal(int kind, String marked) {
        NarrowHouse x = Check.house(SYMBOLS);
        String text = marked.replace("^", "");
        Check.due("unify(" + marked + ")", Check.unify(x, text) == -4, kind != 0);
        fault(x, marked, kind);
        Check.due("goal(" + marked + ")", Check.goal(x, text, true), kind);
        fault(x, marked, kind);
    }

    private static boolean isIn(int c, char from, char to) {
        return c >= from && c <= to;
    }

    /** "1 no TOKEN begins so", "2 it can't stand there". */
    private static void eachByteAlone() {
        for (int c = 0; c < 256; c++) {
            String text = "" + (char) c;
            boolean blank = c == 10 || c == 32;
            boolean begins = isIn(c, 'a', 'z') || isIn(c, 'A', 'Z') || isIn(c, '0', '9') || "(),;=".indexOf(c) >= 0;
            NarrowHouse x = new NarrowHouse();
            Check.due("byte " + c, Check.system(x, text), blank || begins ? 2 : 1);
            Check.due("its place", x.fault(1), blank ? 1 : 0);
            NarrowHouse y = Check.house("sym a 0;");
            boolean variable = isIn(c, 'A', 'Z');
            int kind = variable || c == 'a' ? 0 : isIn(c, 'a', 'z') ? 5 : blank || begins ? 2 : 1;
            Check.due("normal of byte " + c, Check.normal(y, text), kind == 0 ? 0 : -4);
            Check.due("its FAULT", y.fault(0), kind);
            Check.due("its place", y.fault(1), kind == 0 ? NONE : blank ? 1 : 0);
        }
    }

    /** "TOKENS, as long as they go": letters and digits belong to the NAME, nothing else does. */
    private static void eachByteBehindAToken() {
        for (int c = 0; c < 256; c++) {
            NarrowHouse x = Check.house("sym a 0;");
            boolean blank = c == 10 || c == 32;
            boolean word = isIn(c, 'a', 'z') || isIn(c, 'A', 'Z') || isIn(c, '0', '9');
            boolean sign = "(),;=".indexOf(c) >= 0;
            Check.due("a and byte " + c, Check.normal(x, "a" + (char) c), blank ? 0 : -4);
            Check.due("its FAULT", x.fault(0), blank ? 0 : word ? 5 : sign ? 2 : 1);
            // what stands behind the ( is missing
            Check.due("its place", x.fault(1), blank ? NONE : word ? 0 : c == '(' ? 2 : 1);
            Check.due("A and byte " + c, Check.normal(x, "A" + (char) c), blank || word ? 0 : -4);
            Check.due("its FAULT", x.fault(0), blank || word ? 0 : sign ? 2 : 1);
            Check.due("its place", x.fault(1), blank || word ? NONE : 1);
        }
    }

    /** "between them blanks (10, 32)": none, or any number of them, ahead and behind too. */
    private static void blanks() {
        system(0, "sym a 0,f 1;rule f(X)->a;");
        system(0, "\n \nsym \n a  \n0 , f\n\n1 ; rule  f ( X )  ->  a ;\n\n ");
        system(0, "sym a0 0;");
        system(2, "sym a0^;");
        system(2, "^syma 0;");
        system(2, "sym a 0; ^rulea->a;");
        system(1, "sym a 0;^\r");
        system(1, "sym a 0;^\t");
        system(1, "sym a 0; rule a -> ^-\n> a;");
        term(0, " f( a ) ");
        term(0, "f\n(\na\n)\n");
        term(2, "   ^");
        term(2, "f(a \n ^");
    }

    /** "8 signs at most". */
    private static void eightSigns() {
        system(0, "sym a 0, abcdefgh 1; rule abcdefgh(Abcdefg8)->Abcdefg8;");
        system(1, "sym a 0, ^abcdefghi 1;");
        system(1, "sym a 0, b 1; rule b(^Abcdefg89)->a;");
        term(0, "f(Abcdefgh)");
        term(1, "f(^Abcdefghi)");
        term(5, "f(^abcdefgh)");
        term(1, "f(^abcdefghi)");
        NarrowHouse x = Check.house("sym abcdefgh 0, abcdefgi 0, abcdefg 0; rule abcdefgi->abcdefgh;");
        Check.due("eight signs are told apart", Check.normal(x, "abcdefgi"), 1);
        Check.due("OUT", Check.out(x), "abcdefgh");
        Check.due("seven of them are another NAME", Check.normal(x, "abcdefg"), 0);
        Check.due("VARIABLES too", Check.unify(x, "Abcdefgh=Abcdefgi"), 1);
        Check.due("OUT", Check.out(x), "Abcdefgh=Abcdefgh,Abcdefgi=Abcdefgh");
    }

    private static void aTokenAsLongAsTheTape() {
        for (char first : new char[] {'a', 'A'}) {
            StringBuilder text = new StringBuilder();
            for (int k = 0; k < 1600; k++) text.append(k % 9 == 0 ? first : '7');
            NarrowHouse x = new NarrowHouse();
            Check.due("1,600 signs", Check.system(x, text.toString()), 1);
            Check.due("place", x.fault(1), 0);
        }
    }

    /** "NUMBERS (a digit)", "a digit above 4 as an ARITY". */
    private static void digits() {
        for (int d = 0; d <= 9; d++) system(d <= 4 ? 0 : 2, d <= 4 ? "sym a " + d + ";" : "sym a ^" + d + ";");
        for (int d = 0; d <= 9; d++) system(2, d <= 4 ? "sym a " + d + "^0;" : "sym a ^" + d + "0;");
        system(2, "sym a 0^0;");
        system(2, "sym a 4^b;");
        system(2, "sym ^0 0;");
        term(2, "f(^4)");
        term(2, "^1");
        for (int arity = 0; arity <= 4; arity++) {
            NarrowHouse x = Check.house("sym a 0, k " + arity + ";");
            for (int given = 0; given <= 5; given++) {
                StringBuilder text = new StringBuilder("k");
                for (int k = 0; k < given; k++) text.append(k == 0 ? "(" : ",").append(k % 2 == 0 ? "a" : "X");
                if (given > 0) text.append(")");
                Check.due(text + " with ARITY " + arity, Check.normal(x, text.toString()), given == arity ? 0 : -4);
                Check.due("FAULT", x.fault(0), given == arity ? 0 : 6);
                Check.due("place", x.fault(1), given == arity ? NONE : 0);
            }
        }
    }

    /** "sym and rule are no NAMES." */
    private static void wordsThatAreNoNames() {
        for (String word : new String[] {"sym", "rule"}) {
            system(2, "sym ^" + word + " 0;");
            system(2, "sym a 0, ^" + word + " 0;");
            system(2, "sym a 0; rule ^" + word + "->a;");
            system(2, "sym a 0; rule a->^" + word + ";");
            term(2, "^" + word);
            term(2, "f(^" + word + ")");
            system(0, "sym " + word + "s 0, " + word + "1 0, " + word.substring(1) + " 0;");
            term(0, "S" + word);
        }
    }

    private static final String[] TOKENS = {"b", "B", "1", "(", ")", ",", ";", "=", "->", "sym", "rule"};

    /** "2 it can't stand there", for each kind of TOKEN: at the end of the text all others than these are wrong. */
    private static void eachTokenAtEachPlaceOfASystem() {
        String[][] places = {
            {"", "sym"}, {"sym ", "b"}, {"sym a ", "1"}, {"sym a 0 ", ",", ";"}, {"sym a 0,", "b"}, {"sym a 0, b ", "1"}, {"sym a 0;", "rule"},
            {"sym a 0; rule ", "b", "B"}, {"sym a 0; rule a ", "(", "->"}, {"sym a 0; rule X ", "->"}, {"sym a 0; rule a(", "b", "B"},
            {"sym a 0; rule a(a ", "(", ",", ")"}, {"sym a 0; rule a(X ", ",", ")"}, {"sym a 0; rule a(a,", "b", "B"},
            {"sym a 0; rule a(a(a) ", ",", ")"}, {"sym a 0; rule a(a) ", "->"}, {"sym a 0; rule a -> ", "b", "B"},
            {"sym a 0; rule a -> a ", "(", ";"}, {"sym a 0; rule a -> X ", ";"}, {"sym a 0; rule a -> a(", "b", "B"},
            {"sym a 0; rule a -> a(X ", ",", ")"}, {"sym a 0; rule a -> a(a) ", ";"}, {"sym b 0, a 0; rule a -> b;", "rule"},
        };
        for (String[] place : places) {
            for (String token : TOKENS) {
                NarrowHouse x = new NarrowHouse();
                Check.system(x, place[0] + token);
                isWrongAt(x, place, token);
            }
        }
    }

    private static void isWrongAt(NarrowHouse x, String[] place, String token) {
        boolean can = false;
        for (int k = 1; k < place.length; k++) if (place[k].equals(token)) can = true;
        boolean wrong = x.fault(0) == 2 && x.fault(1) == place[0].length();
        Check.due(token + " behind " + place[0] + " is FAULT 2 at it", wrong, !can);
    }

    private static void eachTokenAtEachPlaceOfATerm() {
        String[][] places = {
            {"", "b", "B"}, {"f ", "("}, {"X "}, {"f(", "b", "B"}, {"f(a ", "(", ",", ")"}, {"f(X ", ",", ")"}, {"f(X,", "b", "B"}, {"f(a) "},
            {"f(g(a) ", ",", ")"}, {"g(f(X),", "b", "B"}, {"g(X,f(X)) "},
        };
        for (String[] place : places) {
            for (String token : TOKENS) {
                NarrowHouse x = Check.house(SYMBOLS);
                Check.normal(x, place[0] + token);
                isWrongAt(x, place, token);
            }
        }
    }

    private static void eachTokenAtEachPlaceOfAGoal() {
        String[][] places = {
            {"", "b", "B"}, {"a ", "(", "="}, {"X ", "="}, {"f(", "b", "B"}, {"f(a ", "(", ",", ")"}, {"f(X ", ",", ")"}, {"f(a) ", "="},
            {"a=", "b", "B"}, {"a=f ", "("}, {"a=X "}, {"a=f(", "b", "B"}, {"a=f(X ", ",", ")"}, {"a=f(a) "},
        };
        for (String[] place : places) {
            for (String token : TOKENS) {
                NarrowHouse x = Check.house(SYMBOLS);
                Check.unify(x, place[0] + token);
                isWrongAt(x, place, token);
                Check.goal(x, place[0] + token, false);
                isWrongAt(x, place, token);
            }
        }
    }

    /** "the end: the text's length", for each length that a SYSTEM can be cut to. */
    private static void theEndOfASystem() {
        String text = "sym a 0,f 1;rule f(X)->a;";
        // a word that is cut stands where another one is due, and half a -> is no TOKEN
        int[] places = {0, 0, 0, 3, 4, 5, 6, 7, 8, 9, 10, 11, NONE, 12, 12, 12, 16, 17, 18, 19, 20, 21, 21, 23, 24, NONE};
        for (int n = 0; n <= text.length(); n++) {
            NarrowHouse x = new NarrowHouse();
            Check.feed(x, text);
            int kind = places[n] == NONE ? 0 : n == 22 ? 1 : 2;
            Check.due("the first " + n, x.system(n), kind);
            Check.due("fault(0) of the first " + n, x.fault(0), kind);
            Check.due("fault(1) of the first " + n, x.fault(1), places[n]);
        }
    }

    private static void theEndOfATermAndOfAGoal() {
        String text = "g(f(X),a)";
        // one NAME alone is a TERM, but has not its ARGUMENTS
        int[] places = {0, 0, 2, 3, 4, 5, 6, 7, 8, NONE};
        int[] kinds = {2, 6, 2, 2, 2, 2, 2, 2, 2, 0};
        NarrowHouse x = Check.house(SYMBOLS);
        for (int n = 0; n <= text.length(); n++) {
            Check.feed(x, text);
            Check.due("normal(" + n + ")", x.normal(n), kinds[n] == 0 ? 0 : -4);
            Check.due("FAULT", x.fault(0), kinds[n]);
            Check.due("place", x.fault(1), places[n]);
        }
        text = "X = f( a )";
        int[] goalPlaces = {0, 1, 2, 3, 4, 4, 6, 7, 8, 9, NONE};
        for (int n = 0; n <= text.length(); n++) {
            // with five bytes f is there, and has not its ARGUMENT
            int kind = n == 5 ? 6 : n == 10 ? 0 : 2;
            Check.feed(x, text);
            Check.due("unify(" + n + ")", x.unify(n), kind == 0 ? 1 : -4);
            Check.due("FAULT", x.fault(0), kind);
            Check.due("place", x.fault(1), goalPlaces[n]);
            Check.feed(x, text);
            Check.due("goal(" + n + ")", x.goal(n, false), kind);
            Check.due("place", x.fault(1), goalPlaces[n]);
        }
    }

    /** "The first n bytes of the tape": what is behind them is not looked at, and is gone. */
    private static void theTextEndsBeforeTheTape() {
        NarrowHouse x = new NarrowHouse();
        Check.feed(x, "sym abcd 0;@@@@@@@@@@@@@@@@@@@@@");
        Check.due("system(11)", x.system(11), 0);
        Check.feed(x, "abcdefghijklmnop");
        Check.due("normal(4) in the middle of a word", x.normal(4), 0);
        Check.due("OUT", Check.out(x), "abcd");
        Check.feed(x, "abcdefghijklmnop");
        Check.due("normal(3)", x.normal(3), -4);
        Check.due("no such SYMBOL", x.fault(0), 5);
        Check.feed(x, "abcd=abcd=");
        Check.due("unify(9)", x.unify(9), 1);
        Check.feed(x, "abcd=Abcdefghi");
        Check.due("goal(13)", x.goal(13, true), 0);
        Check.feed(x, "abcd=Abcdefghi");
        Check.due("goal(14)", x.goal(14, true), 1);
        Check.due("feed behind that", x.feed(0, 0, 0, 0, 0), 20);
    }

    private static String symbols(int count) {
        StringBuilder text = new StringBuilder("sym ");
        for (int k = 0; k < count; k++) text.append(k == 0 ? "" : ",").append((char) ('a' + k)).append(" ").append(k % 5);
        return text.toString();
    }

    /** "a 17th SYMBOL (at its NAME)". */
    private static void seventeenSymbols() {
        system(0, symbols(15) + ";");
        system(0, symbols(16) + ";");
        system(3, symbols(16) + ",^q 0;");
        system(3, symbols(16) + ",^a 0;");
        system(3, symbols(16) + ",^q");
        system(2, symbols(16) + "^");
        NarrowHouse x = Check.house(symbols(16) + ";");
        Check.due("SYMBOLS", x.count(0), 16);
        // the 16th was told with no ARGUMENT
        Check.due("the last of them is there", Check.normal(x, "p"), 0);
        Check.due("a 17th is not", Check.normal(x, "q"), -4);
    }

    private static String rules(int count) {
        StringBuilder text = new StringBuilder(SYMBOLS);
        for (int k = 0; k < count; k++) text.append("rule f(X)->a;");
        return text.toString();
    }

    /** "a 17th RULE (at rule)". */
    private static void seventeenRules() {
        for (int count = 0; count <= 16; count++) {
            NarrowHouse x = Check.house(rules(count));
            Check.due("RULES", x.count(1), count);
            Check.due("show(0,last)", x.show(0, count - 1) > 0, count > 0);
            Check.due("show(0,behind)", x.show(0, count), NONE);
        }
        system(3, rules(16) + "^rule f(X)->a;");
        system(3, rules(16) + "^rule ->");
        system(2, rules(16) + "^rules");
    }

    /** "the ninth VARIABLE of a RULE" (a second time is no new one). */
    private static void ninthVariable() {
        String eight = "g(A,g(B,g(C,g(D,g(E,g(F,g(G,H)))))))";
        system(0, SYMBOLS + "rule " + eight + "->H;");
        system(0, SYMBOLS + "rule g(" + eight + "," + eight + ")->g(H,A);");
        system(3, SYMBOLS + "rule g(" + eight + ",^I)->a;");
        system(3, SYMBOLS + "rule g(" + eight + ",f(^I))->a;");
        system(3, SYMBOLS + "rule " + eight + "->^I;");
        system(0, SYMBOLS + "rule " + eight + "->a; rule g(f(I),J)->" + "I;");
    }

    /** "the seventh of a GOAL or TERM (at it)". */
    private static void seventhVariable() {
        String six = "g(A,g(B,g(C,g(D,g(E,F)))))";
        term(0, six);
        term(0, "g(" + six + "," + six + ")");
        term(3, "g(" + six + ",^G)");
        goal(0, six + "=" + six);
        goal(3, six + "=^G");
        goal(3, six + "=f(^G)");
        goal(0, "g(A,g(B,C))=g(D,g(E,F))");
        goal(3, "g(A,g(B,g(C,D)))=g(D,g(E,g(F,^G)))");
        // the next text begins to count anew
        NarrowHouse x = Check.house(SYMBOLS);
        Check.due("six", Check.normal(x, six), 0);
        Check.due("six others", Check.normal(x, "g(M,g(N,g(O,g(P,g(Q,R)))))"), 0);
        Check.due("six others", Check.unify(x, "g(M,g(N,O))=g(P,g(Q,R))"), 1);
        Check.due("six others", Check.goal(x, "g(S,g(T,U))=g(V,g(W,Z))", true), 0);
    }

    private static String tower(int signs, String end) {
        StringBuilder text = new StringBuilder();
        for (int k = 1; k < signs; k++) text.append("f(");
        text.append(end);
        for (int k = 1; k < signs; k++) text.append(")");
        return text.toString();
    }

    /** "a VARIABLE or NAME by which a TERM has a SIZE above 40". */
    private static void fortyOneSigns() {
        for (String end : new String[] {"a", "X"}) {
            term(0, tower(39, end));
            term(0, tower(40, end));
            term(3, tower(41, "^" + end));
            term(3, "g(" + tower(39, end) + ",^" + end + ")");
            term(0, "g(" + tower(38, end) + "," + end + ")");
            goal(0, tower(40, end) + "=" + tower(40, end));
            goal(3, tower(40, end) + "=" + tower(41, "^" + end));
            system(0, SYMBOLS + "rule " + tower(40, end) + "->" + tower(39, end) + ";");
            system(7, SYMBOLS + "rule " + tower(40, end) + "^->" + tower(40, end) + ";");
            system(3, SYMBOLS + "rule " + tower(41, "^" + end) + "->a;");
            system(3, SYMBOLS + "rule " + tower(40, end) + "->" + tower(41, "^" + end) + ";");
        }
        term(3, tower(41, "^f(a)"));
        term(3, tower(41, "^q"));
        term(2, tower(40, "a ^a"));
        term(5, tower(40, "^aa"));
    }

    /** "of one TOKEN the least kind", "the first along the text". */
    private static void oneTokenTwoFaults() {
        system(1, symbols(16) + ",^abcdefghi 0;");
        system(2, symbols(16) + ",^A 0;");
        system(2, symbols(16) + ",^sym 0;");
        term(1, tower(41, "^abcdefghi"));
        term(1, tower(41, "^@"));
        term(2, tower(41, "^,"));
        term(2, "g(^,@)");
        term(3, tower(41, "^a") + "@");
        term(1, "g(q,^@)");
        term(2, "g(q,f(a,a))^)");
        term(3, "g(q,g(A,g(B,g(C,g(D,g(E,g(F,^G)))))))");
        // what is wrong with NAMES comes behind all that, and in order
        term(5, "g(f(^q),f)");
        term(6, "g(^f,q)");
        term(6, "^g(q)");
        goal(5, "f(^q)=f");
        goal(6, "f(a)=g(^f,q)");
        goal(6, "^f=q");
        system(4, "sym a 0,b 0,^a 0; rule q->f(b);");
        system(1, "sym a 0,a 0; rule q->^@");
        system(2, "sym ^,@");
        system(2, "sym a ^,@");
        system(2, "sym a 0,b ^,@");
        system(2, "sym a ^5,@");
        system(5, SYMBOLS + "rule f(X)->a; rule f(X)->^q; rule X->a;");
        system(7, SYMBOLS + "rule f(X)->a; rule ^X->a; rule q->a;");
        system(5, SYMBOLS + "rule X->g(Y,^q);");
        system(7, SYMBOLS + "rule ^X->g(Y,a);");
        system(7, SYMBOLS + "rule a->g(^Y,a);");
    }

    /** "4 SYMBOLS in order: one that was told ahead." */
    private static void symbolsTold() {
        system(4, "sym a 0,^a 0;");
        system(4, "sym a 0,b 0,^b 0,a 0;");
        system(4, symbols(15) + ",^a 0;");
        system(4, symbols(15) + ",^o 0;");
        system(0, "sym a 0,aa 0,a1 0,aA 0;");
    }

    /** "A text has at most 1,600 bytes", and the tape too. */
    private static void sixteenHundred() {
        StringBuilder text = new StringBuilder("sym a 0;");
        while (text.length() < 1600) text.insert(4, text.length() % 2 == 0 ? ' ' : '\n');
        NarrowHouse x = new NarrowHouse();
        for (int k = 1; k <= 80; k++) {
            int from = 20 * k - 20;
            int[] w = new int[5];
            for (int n = 0; n < 5; n++) w[n] = Check.word(text.toString(), from + 4 * n);
            Check.due("feed " + k, x.feed(w[0], w[1], w[2], w[3], w[4]), 20 * k);
        }
        Check.due("feed 81", x.feed(0, 0, 0, 0, 0), NONE);
        Check.due("system(1601)", x.system(1601), NONE);
        Check.due("it is not taken", x.feed(0, 0, 0, 0, 0), NONE);
        Check.due("system(1600)", x.system(1600), 0);
        Check.due("the tape is empty", x.feed(0x20202020, 0, 0, 0, 0), 20);
        Check.due("system(21)", x.system(21), NONE);
        Check.due("system(20)", x.system(20), 1);
        Check.due("at the first 0", x.fault(1), 4);
    }

    /** "the highest of each int first": ints below 0 have bytes too. */
    private static void feedTakesAnyInt() {
        int[] ints = {0, -1, Integer.MIN_VALUE, Integer.MAX_VALUE, 0x20202080, 0x2020ff20, 0x20802020, 0x61ffffff};
        int[] firstBad = {0, 0, 0, 0, 3, 2, 1, 1};
        for (int word = 0; word < 5; word++) {
            for (int k = 0; k < ints.length; k++) {
                int[] w = {0x20202020, 0x20202020, 0x20202020, 0x20202020, 0x20202020};
                w[word] = ints[k];
                NarrowHouse x = Check.house("sym a 0;");
                Check.due("feed", x.feed(w[0], w[1], w[2], w[3], w[4]), 20);
                Check.due("normal(20)", x.normal(20), -4);
                Check.due("FAULT", x.fault(0), 1);
                // behind the a of the last one a byte 255 stands, and no blank
                Check.due("place", x.fault(1), 4 * word + firstBad[k]);
            }
        }
    }
}
