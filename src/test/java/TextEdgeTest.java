import java.util.Map;

/** Terms, 2: TEXTS. For each sentence that names a boundary: on it, and one step to either side. */
public final class TextEdgeTest {
    private static final String NINES = "9".repeat(60);
    private static final String[] FAULT_IS_FREE = {"fault(0)", "fault(1)", "run(40), fault(0)", "run(40), fault(1)"};

    public static void main(String[] args) {
        bytes();
        bytesOfNotes();
        bytesInsideTokens();
        notes();
        longNumbers();
        longLiterals();
        signs();
        words();
        emptyTexts();
        endsOfTexts();
        fullTapes();
        variablesThatThereAreNot();
        linesThatThereAreNot();
        noughtAheadOfTimesAndDivided();
        tooFewOnTheStack();
        theThirteenthLine();
        justOneBehindTheLastItem();
        eachStackIsEmptyAtFirst();
        fortyLinesOfAProblem();
        threeHundredLines();
        whatFollows();
        oppositesOfFalseLines();
        longChains();
        claims();
        onlyWhatIsBehindItTells();
        theLeastNumberOfOnePlace();
        theFirstFromTheLeft();
        loadWithAFaultChangesNothing();
        checkGoesStepByStep();
        Due.end("TextEdgeTest");
    }

    /** load() of the text has so many LINES. */
    private static void loads(int v, String text, int lines) {
        Bench x = new Bench(v);
        Due.due("load() of " + text, Due.load(x, text), lines);
        Due.fault(text, x, 0, -1);
        Due.due(text + ": count(0)", x.count(0), lines);
    }

    private static void loadFault(int v, String text, int kind, int place) {
        Bench x = new Bench(v);
        Due.due("load() of " + text, Due.load(x, text), -1);
        Due.fault(text, x, kind, place);
        Due.due(text + ": count(0)", x.count(0), 0);
        Due.due(text + ": count(10)", x.count(10), 0);
    }

    /** With LINES 1: 2 x1 1 ~x2 >= 2, and 2: >= 1 (FALSE), of three VARIABLES. */
    private static Bench small() {
        return Due.loaded(3, "2x1 ~x2>=2; >=1;");
    }

    private static void checks(String text, int done) {
        Bench x = small();
        Due.due("check() of " + text, Due.check(x, text), done);
        Due.fault(text, x, 0, -1);
        Due.due(text + ": count(10)", x.count(10), 0);
    }

    private static void checkFault(String text, int done, int kind, int place) {
        Bench x = small();
        Due.due("check() of " + text, Due.check(x, text), done);
        Due.fault(text, x, kind, place);
        Due.due(text + ": count(0)", x.count(0), 2 + done);
        Due.due(text + ": count(10)", x.count(10), 0);
    }

    private static void bytes() {
        Due.sentence("TEXTS are of bytes 9, 10, 32 .. 126 (others are a FAULT 1 where they stand).");
        for (int b = 0; b < 256; b++) {
            String text = "x1>=1;" + (char) b;
            if (b == 9 || b == 10 || b == 32 || b == '#') {
                loads(2, text, 1);
            } else {
                // A NUMBER, + and - can begin a TERM, = can stand behind an empty SUM: more is missed at the text's end.
                boolean begins = b >= '0' && b <= '9' || b == '+' || b == '-' || b == '=';
                loadFault(2, text, 1, begins ? 7 : 6);
            }
            String steps = "c 2;" + (char) b;
            Bench x = small();
            Due.due("check() of " + steps, Due.check(x, steps), 1);
            boolean good = b == 9 || b == 10 || b == 32 || b == '#';
            boolean begins = b == 'p' || b == 'u' || b == 'c';
            Due.fault(steps, x, good ? 0 : 1, good ? -1 : begins ? 5 : 4);
        }
    }

    private static void bytesOfNotes() {
        Due.sentence("TEXTS are of bytes 9, 10, 32 .. 126, in notes too; a note goes up to 10");
        for (int b = 0; b < 256; b++) {
            String text = "x1>=1;#" + (char) b + "?";
            if (b == 9 || b >= 32 && b <= 126) {
                loads(2, text, 1);
            } else {
                loadFault(2, text, 1, b == 10 ? 8 : 7);
            }
        }
        claimFault("c 2 ;#\u0001", 1, 0, 1, 6);
        checkFault("p 1 ;# \u007f\n", 1, 1, 7);
        checkFault("p 1 # \u00ff\n ;", 0, 1, 6);
    }

    /** Of STEPS that don't make a LINE each. */
    private static void claimFault(String text, int done, int lines, int kind, int place) {
        Bench x = small();
        Due.due("check() of " + text, Due.check(x, text), done);
        Due.fault(text, x, kind, place);
        Due.due(text + ": count(0)", x.count(0), 2 + lines);
    }

    private static void bytesInsideTokens() {
        Due.sentence("TOKENS, the longest that can be, between them blanks (9, 10, 32)");
        for (String blank : new String[] {"\t", "\n", " ", " \n\t ", "#\n", "", "# x1 # ;\n#\n"}) {
            loads(12, blank + "2" + blank + "x1" + blank + "+" + blank + "3" + blank + "~x2" + blank + ">=" + blank + "-" + blank
                + "1" + blank + ";" + blank, 1);
            checks(blank + "p" + blank + "x01" + blank + "7" + blank + "*" + blank + "7" + blank + "d" + blank + "x1" + blank
                + "w" + blank + "s" + blank + ";" + blank, 1);
            if (!blank.isEmpty()) {
                loadFault(12, "x" + blank + "1>=1;", 1, 0);
                loadFault(12, "~" + blank + "x1>=1;", 1, 0);
                loadFault(12, "~x" + blank + "1>=1;", 1, 0);
                loadFault(12, "x1>" + blank + "=1;", 1, 2);
                loadFault(12, "x1<" + blank + "=1;", 1, 2);
                loadFault(12, "x1>=1" + blank + "1;", 1, 5 + blank.length());
                loadFault(12, "x1" + blank + "1>=1;", 1, 3 + blank.length());
            }
        }
        loadFault(12, "x\u00001>=1;", 1, 0);
        loadFault(12, "x1>\u0000=1;", 1, 2);
        loadFault(12, "x1>=1\u00001;", 1, 5);
        loadFault(12, "x1\u00001>=1;", 1, 2);
    }

    private static void notes() {
        Due.sentence("notes (# up to 10 or the end)");
        loads(2, "#", 0);
        loads(2, "#\n", 0);
        loads(2, "##\n#", 0);
        loads(2, "# x1>=1;", 0);
        loads(2, "#\nx1>=1;", 1);
        loads(2, "x1>=1;#", 1);
        loads(2, "x1>=1;#x2>=1;\nx2>=1;", 2);
        loads(2, "x1>=1;#\n#\n\n#x9\n", 1);
        loads(2, "x1#\n>=1#1\n;", 1);
        loadFault(2, "x1>=1#;", 1, 7);
        loadFault(2, "x1>=1#;\n", 1, 8);
        checks("#p\nc#2\n2#;\n;#", 1);
        checkFault("p 1 #;", 0, 1, 6);
    }

    private static void longNumbers() {
        Due.sentence("NUMBERS: digits, 60 at most (more of them are no TOKEN)");
        for (String digits : new String[] {"9".repeat(59), NINES, "0".repeat(59) + "1", "0".repeat(60), "0"}) {
            Bench x = Due.loaded(2, digits + "x1>=" + digits + ";");
            java.math.BigInteger due = new java.math.BigInteger(digits);
            Due.due("COEFFICIENT " + digits, Due.number(x, 1, 1).toString(), due.toString());
            Due.due("DEGREE " + digits, Due.number(x, 1, 0).toString(), due.toString());
        }
        for (String digits : new String[] {NINES + "9", "0".repeat(60) + "1", "0".repeat(61), NINES + NINES}) {
            loadFault(2, digits + "x1>=1;", 1, 0);
            loadFault(2, "-" + digits + "x1>=1;", 1, 1);
            loadFault(2, "x1>=" + digits + ";", 1, 4);
            checkFault("p " + digits + " ;", 0, 1, 2);
            checkFault("p 1 " + digits + " * ;", 0, 1, 4);
            checkFault("p 1 " + digits + " d ;", 0, 1, 4);
            checkFault("c " + digits + " ;", 0, 1, 2);
            checkFault("u x1 >= " + digits + " ;", 0, 1, 8);
            checkFault("u " + digits + " x1 >= 0 ;", 0, 1, 2);
        }
        String one = "0".repeat(59) + "1";
        String two = "0".repeat(59) + "2";
        checks("p " + one + " ;", 1);
        checks("p 1 " + one + " * ;", 1);
        checks("p 1 " + two + " d ;", 1);
        checks("c " + two + " ;", 1);
        checks("u x1 >= -" + NINES + " ;", 1);
        checks("p 1 " + NINES + " d ;", 1);
        // 60 digits behind a LITERAL's two are a NUMBER, 61 are none.
        loads(16, "x12" + NINES + "x3>=1;", 1);
        loadFault(16, "x12" + NINES + "9x3>=1;", 1, 3);
    }

    private static void longLiterals() {
        Due.sentence("LITERALS: x and 1 or 2 digits, or ~x and 1 or 2 digits");
        String[] texts = {"x1>=0;", "x01>=0;", "x12>=0;", "x123x3>=0;", "x012x3>=0;", "~x1>=0;", "~x01>=0;", "~x12>=0;",
            "~x123~x3>=0;"};
        String[] lines = {"1 x1 >= 0", "1 x1 >= 0", "1 x12 >= 0", "3 x3 1 x12 >= 0", "1 x1 2 x3 >= 0", "1 ~x1 >= 0",
            "1 ~x1 >= 0", "1 ~x12 >= 0", "3 ~x3 1 ~x12 >= 0"};
        for (int i = 0; i < texts.length; i++) {
            Due.due(texts[i], Due.line(Due.loaded(16, texts[i]), 1), lines[i]);
        }
        loadFault(16, "x>=0;", 1, 0);
        loadFault(16, "~x>=0;", 1, 0);
        loadFault(16, "~>=0;", 1, 0);
        loadFault(16, "~~x1>=0;", 1, 0);
        loadFault(16, "xx1>=0;", 1, 0);
        loadFault(16, "~1>=0;", 1, 0);
        loadFault(16, "x1>=0;x", 1, 6);
        loadFault(16, "x1>=0;~x", 1, 6);
        loadFault(16, "x1>=0;~", 1, 6);
        loadFault(16, "x123>=0;", 1, 4);
        checks("p x1 2 * ;", 1);
        checks("p x012* ;", 1);
        checkFault("p x12* ;", 0, 2, 2);
        checkFault("p ~ x1 ;", 0, 1, 2);
        checkFault("p x ;", 0, 1, 2);
    }

    private static void signs() {
        Due.sentence("SIGNS: + - * ; >= <= =");
        loads(2, "x1>=1;x1<=1;", 2);
        loads(2, "x1=1;", 2);
        loads(2, "x1>=+1;x1<=-1;x1=-1;", 4);
        loadFault(2, "x1>1;", 1, 2);
        loadFault(2, "x1<1;", 1, 2);
        loadFault(2, "x1>", 1, 2);
        loadFault(2, "x1<", 1, 2);
        loadFault(2, "x1>>=1;", 1, 2);
        loadFault(2, "x1>==1;", 1, 4);
        loadFault(2, "x1<==1;", 1, 4);
        loadFault(2, "x1==1;", 1, 3);
        loadFault(2, "x1=>1;", 1, 3);
        loadFault(2, "x1=<1;", 1, 3);
        loadFault(2, "x1!=1;", 1, 2);
        loadFault(2, "++1x1>=1;", 1, 1);
        loadFault(2, "+-1x1>=1;", 1, 1);
        loadFault(2, "x1>=-+1;", 1, 5);
        loadFault(2, "+x1>=1;", 1, 1);
        loadFault(2, "1 1x1>=1;", 1, 2);
        loadFault(2, "x1>=1x2;", 1, 5);
        loadFault(2, "x1>=;", 1, 4);
        loadFault(2, "x1>=-;", 1, 5);
        loadFault(2, ";", 1, 0);
    }

    private static void words() {
        Due.sentence("STEP: p { ITEM } ; | u SUM >= INT ; | c NUMBER ;");
        for (String word : new String[] {"p", "u", "c", "d", "s", "w", "*"}) {
            loadFault(2, word, 1, 0);
            loadFault(2, "x1" + word, 1, 2);
            loadFault(2, "x1>=" + word, 1, 4);
            loadFault(2, "x1>=1" + word, 1, 5);
            checkFault("p 1;" + word + "?", 1, 1, word.matches("[puc]") ? 5 : 4);
        }
        for (String odd : new String[] {"1", "x1", "~x1", "+", "-", "*", ";", ">=", "<=", "=", "d", "s", "w", "P", "U", "C"}) {
            checkFault(odd + " 1 ;", 0, 1, 0);
        }
        for (String odd : new String[] {"-", ">=", "<=", "=", "p", "u", "c", "*", "d", "w"}) {
            checkFault("p x1 " + odd + " ;", 0, odd.equals("w") ? 4 : 1, 5);
        }
        for (String odd : new String[] {"*", "<=", "=", "p", "u", "c", "d", "s", "w", ";"}) {
            checkFault("u x1 " + odd + " 1 ;", 0, 1, 5);
            checkFault("u x1 >= " + odd + " ;", 0, 1, 8);
            checkFault("c " + odd + " ;", 0, 1, 2);
        }
        for (String odd : new String[] {"+", "-", "*", "<=", "=", "p", "u", "c", "d", "s", "w", "1", "x1"}) {
            checkFault("u x1 >= 1 " + odd + " ;", 0, 1, 10);
            checkFault("c 2 " + odd + " ;", 0, 1, 4);
        }
        checkFault("c + 2 ;", 0, 1, 2);
        checkFault("c - 2 ;", 0, 1, 2);
    }

    private static void emptyTexts() {
        Due.sentence("{ SUM (>= | <= | =) INT ; }: none is a PROBLEM, { STEP }: none are STEPS; SUM: { TERM }, none too");
        loads(2, "", 0);
        loads(2, " ", 0);
        checks("", 0);
        checks("\n", 0);
        loads(2, ">=0;", 1);
        loads(2, "<=0;", 1);
        loads(2, "=0;", 2);
        checks("u >= 0 ;", 1);
        checkFault("p ;", 0, 4, 2);
        Bench x = small();
        x.begin();
        Due.due("load() of nothing", x.load(), 0);
        Due.due("no LINES", x.count(0), 0);
        Due.due("none of the PROBLEM", x.count(1), 0);
        Due.due("no search", x.count(3), 0);
    }

    private static void endsOfTexts() {
        Due.sentence("place: the TOKEN's first byte, the text's length at its end");
        String[] problems = {"x1", "x1>=", "x1>=-", "x1>=1", "2", "-", "x1>=1;x1>=1"};
        String[] steps = {"p", "p 1", "p 1 2", "p x1", "u", "u x1", "u x1 >=", "u x1 >= 1", "u >= -", "c", "c 1", "c 2"};
        for (String end : new String[] {"", " ", "\n", "#", "#\n", " # ;\n "}) {
            for (String text : problems) {
                loadFault(2, text + end, 1, text.length() + end.length());
            }
            for (String text : steps) {
                checkFault(text + end, 0, 1, text.length() + end.length());
                checkFault("p 1 ;" + text + end, 1, 1, 5 + text.length() + end.length());
            }
        }
    }

    private static void fullTapes() {
        Due.sentence("the text's length at its end: up to 4,000");
        String blanks = " ".repeat(3993);
        loads(2, blanks + "x1>=1; ", 1);
        loads(2, blanks + " x1>=1;", 1);
        loadFault(2, blanks + "  x1>=1", 1, 4000);
        loadFault(2, blanks + "  x1>= ", 1, 4000);
        loadFault(2, blanks + "x1>=1;?", 1, 3999);
        loadFault(2, blanks + "x1>=1;;", 1, 3999);
        loadFault(2, blanks + " x3>=1;", 2, 3994);
        loads(2, blanks + "x1>=1;#", 1);
        checks(" ".repeat(3995) + "p 1 ;", 1);
        checkFault(" ".repeat(3995) + " p 1 ", 0, 1, 4000);
        checkFault(" ".repeat(3995) + "p 1;p", 1, 1, 4000);
        checkFault(" ".repeat(3995) + "p 1;;", 1, 1, 3999);
    }

    private static void variablesThatThereAreNot() {
        Due.sentence("FAULT 2 (at it) a VARIABLE that there is not");
        for (int v : new int[] {1, 2, 9, 10, 15, 16}) {
            for (int n : new int[] {0, 1, v - 1, v, v + 1, 98, 99}) {
                for (String literal : new String[] {"x" + n, "~x" + n, n < 10 ? "x0" + n : "x" + n}) {
                    boolean there = n >= 1 && n <= v;
                    Bench x = new Bench(v);
                    Due.due("V " + v + ": " + literal, Due.load(x, " 3 " + literal + ">=0;"), there ? 1 : -1);
                    Due.fault("V " + v + ": " + literal, x, there ? 0 : 2, there ? -1 : 3);
                    Due.due("V " + v + ": p " + literal, Due.check(x, "p " + literal + ";"), there ? 1 : 0);
                    Due.fault("V " + v + ": p " + literal, x, there ? 0 : 2, there ? -1 : 2);
                    Due.due("V " + v + ": w " + literal, Due.check(x, "p x1 " + literal + " w;"), there ? 1 : 0);
                    Due.fault("V " + v + ": w " + literal, x, there ? 0 : 2, there ? -1 : 5);
                    Due.due("V " + v + ": u " + literal, Due.check(x, "u x1 " + literal + " >= 0;"), there ? 1 : 0);
                    Due.fault("V " + v + ": u " + literal, x, there ? 0 : 2, there ? -1 : 5);
                }
            }
        }
    }

    private static void linesThatThereAreNot() {
        Due.sentence("in p, c: a NUMBER that is no LINE's");
        checks("p 1 ;", 1);
        checks("p 2 ;", 1);
        checkFault("p 0 ;", 0, 2, 2);
        checkFault("p 3 ;", 0, 2, 2);
        checkFault("p 1 0 + ;", 0, 2, 4);
        checkFault("p 1 3 + ;", 0, 2, 4);
        checks("c 2 ;", 1);
        checkFault("c 1 ;", 0, 6, 4);
        checkFault("c 0 ;", 0, 2, 2);
        checkFault("c 3 ;", 0, 2, 2);
        // A STEP ahead makes LINE 3, a c makes none.
        checks("p 2 ; p 3 ; c 4 ;", 3);
        checkFault("p 2 ; p 4 ;", 1, 2, 8);
        checkFault("p 2 ; c 4 ;", 1, 2, 8);
        claimFault("c 2 ; p 3 ;", 1, 0, 2, 8);
        // Numbers that are LINES' but for what a word of 32 bits loses, or a sign.
        for (String great : new String[] {"2147483648", "2147483649", "4294967295", "4294967296", "4294967297", "4294967298",
            "18446744073709551617", "340282366920938463463374607431768211457", NINES}) {
            checkFault("p " + great + " ;", 0, 2, 2);
            checkFault("c " + great + " ;", 0, 2, 2);
        }
        Bench none = new Bench(2);
        Due.due("no LINES", Due.check(none, "p 1 ;"), 0);
        Due.fault("no LINES", none, 2, 2);
        Due.due("no LINES", Due.check(none, "p x1 ; p 1 ;"), 2);
        // All 300 can be named.
        Bench x = small();
        Due.check(x, "p 1;".repeat(298));
        Due.due("the last", Due.check(x, "c 300;"), 0);
        Due.fault("the last", x, 6, 5);
        Due.due("one more", Due.check(x, "c 301;"), 0);
        Due.fault("one more", x, 2, 2);
    }

    private static void noughtAheadOfTimesAndDivided() {
        Due.sentence("3 a NUMBER ahead of * or d that is 0 (at it)");
        for (String sign : new String[] {"*", "d"}) {
            checks("p 1 1 " + sign + " ;", 1);
            checks("p 1 2 " + sign + " ;", 1);
            checks("p 1 01 " + sign + " ;", 1);
            checkFault("p 1 0 " + sign + " ;", 0, 3, 4);
            checkFault("p 1 00 " + sign + " ;", 0, 3, 4);
            checkFault("p 1 " + "0".repeat(60) + sign + " ;", 0, 3, 4);
            checks("p 1 " + "0".repeat(59) + "1" + sign + " ;", 1);
            checkFault("p 0 " + sign + " ;", 0, 3, 2);
            checkFault("p 1 ; p 1 0" + sign, 1, 3, 10);
        }
        // Numbers of which some words are 0.
        checks("p 1 4294967296 d ;", 1);
        checks("p 1 18446744073709551616 * ;", 1);
    }

    private static void tooFewOnTheStack() {
        Due.sentence("4 the STACK: too few for +, for what wants an uppermost one (at the +, *, d, w, s)");
        checkFault("p + ;", 0, 4, 2);
        checkFault("p 1 + ;", 0, 4, 4);
        checks("p 1 1 + ;", 1);
        checkFault("p 1 1 + + ;", 0, 4, 8);
        checks("p 1 1 1 + + ;", 1);
        checkFault("p 1 1 1 + + + ;", 0, 4, 12);
        checkFault("p 7 * ;", 0, 4, 4);
        checks("p 1 7 * ;", 1);
        checkFault("p 7 d ;", 0, 4, 4);
        checks("p 1 7 d ;", 1);
        checkFault("p x1 w ;", 0, 4, 5);
        checks("p 1 x1 w ;", 1);
        checkFault("p s ;", 0, 4, 2);
        checks("p 1 s ;", 1);
        checkFault("p x1 + ;", 0, 4, 5);
        checks("p x1 s ;", 1);
        checks("p x1 x1 + ;", 1);
        checks("p x1 7 * x2 w ;", 1);
    }

    private static void theThirteenthLine() {
        Due.sentence("a 13th LINE on it (at the NUMBER or LITERAL)");
        String plus = "+ ".repeat(10);
        checks("p " + "1 ".repeat(11) + plus + ";", 1);
        checks("p " + "1 ".repeat(12) + plus + "+ ;", 1);
        checkFault("p " + "1 ".repeat(13) + plus + "+ + ;", 0, 4, 26);
        checks("p " + "x1 ".repeat(12) + plus + "+ ;", 1);
        checkFault("p " + "x1 ".repeat(13) + plus + "+ + ;", 0, 4, 38);
        checkFault("p " + "1 ".repeat(12) + "~x1 ;", 0, 4, 26);
        // What puts none on it goes on.
        checks("p " + "1 ".repeat(12) + "2 * 2 d x1 w s " + plus + "+ ;", 1);
        checks("p " + "1 ".repeat(12) + "+ 1 + x1 " + plus + "+ ;", 1);
        checkFault("p " + "1 ".repeat(12) + "+ 1 x1 " + plus + "+ ;", 0, 4, 30);
    }

    private static void justOneBehindTheLastItem() {
        Due.sentence("behind the last ITEM not just one (at the ;)");
        checkFault("p ;", 0, 4, 2);
        checks("p 1 ;", 1);
        checkFault("p 1 1 ;", 0, 4, 6);
        checkFault("p 1 1 1 + ;", 0, 4, 10);
        checkFault("p " + "1 ".repeat(12) + ";", 0, 4, 26);
        checks("p x1 ;", 1);
        checkFault("p x1 x2 ;", 0, 4, 8);
    }

    private static void eachStackIsEmptyAtFirst() {
        Due.sentence("p: a STACK of LINES, empty at first.");
        checkFault("p 1 ; p s ;", 1, 4, 8);
        checkFault("p 1 ; p + ;", 1, 4, 8);
        checkFault("p 1 ; p 1 + ;", 1, 4, 10);
        checkFault("p 1 ; p ;", 1, 4, 8);
        checkFault("u >= 0 ; p s ;", 1, 4, 11);
        Bench x = small();
        Due.check(x, "p 1 1 1 ;");
        Due.due("behind a FAULT", Due.check(x, "p s ;"), 0);
        Due.fault("behind a FAULT", x, 4, 2);
        Due.due("twelve behind a FAULT", Due.check(x, "p " + "1 ".repeat(12) + "+ ".repeat(11) + ";"), 1);
    }

    private static void fortyLinesOfAProblem() {
        Due.sentence("5 ROOM: at the ; a 41st LINE of a PROBLEM (of = the first or second of its two)");
        loads(2, "x1>=1;".repeat(39), 39);
        loads(2, "x1>=1;".repeat(40), 40);
        loadFault(2, "x1>=1;".repeat(41), 5, 245);
        loadFault(2, "x1>=1;".repeat(42), 5, 245);
        loads(2, "x1<=1;".repeat(40), 40);
        loadFault(2, "x1<=1;".repeat(41), 5, 245);
        loads(2, "x1>=1;".repeat(38) + "x1=1;", 40);
        loadFault(2, "x1>=1;".repeat(39) + "x1=1;", 5, 238);
        loadFault(2, "x1>=1;".repeat(40) + "x1=1;", 5, 244);
        loads(2, "x1=1;".repeat(20), 40);
        loadFault(2, "x1=1;".repeat(21), 5, 104);
        loadFault(2, "x1=1;".repeat(20) + "x1>=1;", 5, 105);
        // LINES of an earlier PROBLEM do not count.
        Bench x = Due.loaded(2, "x1>=1;".repeat(40));
        Due.due("once more", Due.load(x, "x2>=1;".repeat(40)), 40);
        Due.due("LINES", x.count(0), 40);
        Due.due("one too many", Due.load(x, "x1>=0;".repeat(41)), -1);
        Due.due("the others stay", Due.line(x, 40), "1 x2 >= 1");
        Due.due("once more", Due.load(x, "x1>=2;".repeat(40)), 40);
        Due.due("the last", Due.line(x, 40), "1 x1 >= 2");
    }

    private static void threeHundredLines() {
        Due.sentence("5 ROOM: at the ; a 301st LINE of all");
        for (String more : new String[] {"p 1 ;", "u >=0;"}) {
            Bench x = small();
            Due.due("up to 299", Due.check(x, "p 1;".repeat(297)), 297);
            Due.due("the 300th by " + more, Due.check(x, more + "c 2;"), 2);
            Due.due("LINES", x.count(0), 300);
            Due.due("LINE 300", x.origin(300), more.startsWith("p") ? 2 : 3);
            Due.due("the 301st by " + more, Due.check(x, "c 2;" + more + "c 2;"), 1);
            Due.fault("the 301st by " + more, x, 5, 4 + more.indexOf(';'));
            Due.due("LINES", x.count(0), 300);
            Due.due("no LINE 301", x.origin(301), 0);
            Due.due("a c makes none", Due.check(x, "c 2;c 2;"), 2);
        }
        Bench y = small();
        Due.due("in one text", Due.check(y, "p 1;".repeat(300)), 298);
        Due.fault("in one text", y, 5, 298 * 4 + 3);
        Due.due("load() makes them fewer", Due.load(y, "x1>=1;"), 1);
        Due.due("again", Due.check(y, "p 1;".repeat(300)), 299);
        Due.fault("again", y, 5, 299 * 4 + 3);
    }

    private static void follows(int v, String problem, String claim, boolean due) {
        Bench x = Due.loaded(v, problem);
        int before = x.count(0);
        Due.due(problem + " " + claim, Due.check(x, claim), due ? 1 : 0);
        Due.fault(problem + " " + claim, x, due ? 0 : 6, due ? -1 : claim.indexOf(';'));
        Due.due(problem + " " + claim + ": LINES", x.count(0), before + (due ? 1 : 0));
        Due.due(problem + " " + claim + ": origin", x.origin(before + 1), due ? 3 : 0);
    }

    private static void whatFollows() {
        Due.sentence("u: the LINE, if it follows by FORCING: with its OPPOSITE and all LINES some LINE is BROKEN");
        follows(3, "2x1 3x2>=4;", "u 2x1 3x2>=3;", true);
        follows(3, "2x1 3x2>=4;", "u 2x1 3x2>=4;", true);
        follows(3, "x1 x2 x3>=2;", "u x1 x2>=1;", true);
        follows(3, "x1 x2 x3>=2;", "u x1 x2>=0;", true);
        follows(3, "x1 x2 x3>=2;", "u x1 x2>=2;", false);
        follows(3, "x1 x2 x3>=1;", "u x1 x2>=1;", false);
        follows(3, "x1 x2 x3>=3;", "u x1 x2>=2;", true);
        // The OPPOSITE of x1 x2 >= 1 has the DEGREE 2: it FORCES both; that of x1 x2 >= 2 the DEGREE 1: it FORCES none.
        follows(3, "x1>=1;x2>=1;", "u x1 x2>=2;", true);
        follows(3, "x1 x3>=1;x1 ~x3>=1;x2 x3>=1;x2 ~x3>=1;", "u x1 x2>=1;", true);
        follows(3, "x1 x3>=1;x1 ~x3>=1;x2 x3>=1;x2 ~x3>=1;", "u x1 x2>=2;", false);
        // A LINE that is BROKEN without it.
        follows(3, ">=1;", "u x1>=1;", true);
        follows(3, ">=0;", "u x1>=1;", false);
        follows(3, "", "u x1>=1;", false);
        // Numbers of 60 digits: the OPPOSITE's DEGREE is 1, then 0, the claim's 0.
        follows(3, "", "u " + NINES + "x1>=0;", true);
        follows(3, "", "u " + NINES + "x1>=1;", false);
        follows(3, "x1>=1;", "u " + NINES + "x1>=" + NINES + ";", true);
        follows(3, NINES + "x1 x2>=" + NINES + ";", "u x1>=1;", true);
        follows(3, NINES + "x1 " + NINES + "x2>=" + NINES + ";", "u x1>=1;", false);
        Due.sentence("u: the LINE of that (as in a PROBLEM)");
        Bench x = Due.loaded(3, "x1>=1;");
        Due.due("check()", Due.check(x, "u -2~x1 3x2 -1x2>=-2; u ~x1 x1>=1; u -1x2>=-2;"), 3);
        Due.due("LINE 2", Due.line(x, 2), "2 x1 2 x2 >= 0");
        Due.due("LINE 3", Due.line(x, 3), ">= 0");
        Due.due("LINE 4", Due.line(x, 4), "1 ~x2 >= 0");
    }

    private static void oppositesOfFalseLines() {
        Due.sentence("the COEFFICIENTS' sum and 1 less the DEGREE as DEGREE (a DEGREE that would be below 0 is 0)");
        // Of x1 >= 1, 2 and 3 it is 1, 0, and would be -1: from 2 on nothing is FORCED by it.
        String problem = "~x1 x2>=1; ~x1 ~x2>=1;";
        follows(3, problem, "u x1>=0;", true);
        follows(3, problem, "u ~x1>=1;", true);
        follows(3, problem, "u ~x1>=2;", false);
        follows(3, problem, "u ~x1>=3;", false);
        follows(3, problem, "u ~x1>=" + NINES + ";", false);
        follows(3, ">=1;", "u ~x1>=2;", true);
        follows(3, ">=1;", "u ~x1>=3;", true);
        follows(3, "", "u >=0;", true);
        follows(3, "", "u >=-1;", true);
        follows(3, "", "u >=1;", false);
        follows(3, "", "u >=2;", false);
    }

    private static void longChains() {
        Due.sentence("whatever is FORCED becoming true, again and again, some LINE is BROKEN");
        // From the last LINE up each makes the next VARIABLE true; the first one is BROKEN when all 16 are.
        StringBuilder chain = new StringBuilder();
        for (int n = 15; n >= 1; n--) {
            chain.append("~x").append(n).append(" x").append(n + 1).append(">=1;");
        }
        follows(16, "~x1 ~x16>=1;" + chain + "x1>=1;", "u >=1;", true);
        follows(16, chain + "x1>=1;", "u >=1;", false);
        follows(16, chain + "x1>=1;", "u x16>=1;", true);
        follows(16, chain.toString(), "u ~x1 x16>=1;", true);
        follows(16, chain.toString(), "u x1 x16>=1;", false);
        follows(16, chain.toString().replace("~x8 x9>=1;", ""), "u ~x1 x16>=1;", false);
        follows(16, "~x1 ~x16>=1;" + chain, "u ~x1>=1;", true);
    }

    private static void claims() {
        Due.sentence("6 at the ; of a c: it is not FALSE");
        Bench x = Due.loaded(2, "2x1 3x2>=4; 2x1 3x2>=5; 2x1 3x2>=6; >=0; >=1;");
        int[] due = {0, 0, 1, 0, 1};
        for (int k = 1; k <= 5; k++) {
            Due.due("c " + k, Due.check(x, "c " + k + " ;"), due[k - 1]);
            Due.fault("c " + k, x, due[k - 1] == 1 ? 0 : 6, due[k - 1] == 1 ? -1 : 4);
        }
        Due.due("no new LINE", x.count(0), 5);
    }

    private static void onlyWhatIsBehindItTells() {
        Due.sentence("(A NUMBER that stands ahead of * or d is no LINE's: only what is behind it tells)");
        // 3 and 0 are no LINES'; ahead of * or d they need not be. On a full STACK they are no 13th LINE.
        checks("p 1 3 * ;", 1);
        checks("p 1 3 d ;", 1);
        checks("p 1 3\n#note\n*;", 1);
        checkFault("p 1 3 ;", 0, 2, 4);
        checkFault("p 1 3 + ;", 0, 2, 4);
        checkFault("p 1 3 s ;", 0, 2, 4);
        checkFault("p 1 3 w ;", 0, 2, 4);
        checkFault("p 1 3 x1 w ;", 0, 2, 4);
        checkFault("p 1 3 3 * ;", 0, 2, 4);
        checkFault("p 1 3", 0, 2, 4);
        checkFault("p 1 3 ?", 0, 2, 4);
        checkFault("p 1 0 ;", 0, 2, 4);
        checkFault("p 0 * ;", 0, 3, 2);
        checkFault("p 1 0", 0, 2, 4);
        // Ahead of * and d 1 and 2 are factors, though LINES have these numbers.
        checkFault("p 1 2 * + ;", 0, 4, 8);
        checks("p 1 2 2 * + ;", 1);
        // A LITERAL ahead of w likewise.
        checkFault("p x1 w ;", 0, 4, 5);
        checks("p 1 x1\t#\nw;", 1);
        checkFault("p " + "1 ".repeat(12) + "x1 w ;", 0, 4, 31);
    }

    private static void theLeastNumberOfOnePlace() {
        Due.sentence("of one place the least number");
        // 1 and 2: a LITERAL that there is not, where none can stand.
        loadFault(3, "x1>=x4;", 1, 4);
        loadFault(3, "+x4>=1;", 1, 1);
        loadFault(3, "x1>=1x4;", 1, 5);
        checkFault("x4 ;", 0, 1, 0);
        checkFault("c x4 ;", 0, 1, 2);
        checkFault("c 2 x4 ;", 0, 1, 4);
        checkFault("u x1 >= x4 ;", 0, 1, 8);
        // 2 and 4: a 13th LINE that there is not.
        checkFault("p " + "1 ".repeat(12) + "3 ;", 0, 2, 26);
        checkFault("p " + "1 ".repeat(12) + "0 ;", 0, 2, 26);
        checkFault("p " + "1 ".repeat(12) + "x4 ;", 0, 2, 26);
        // 4 and 5: two LINES on the STACK, or none, and 300 there already; 5 and 6: the claim does not follow, either.
        Bench x = Due.loaded(3, "x1>=1;");
        Due.check(x, "p 1;".repeat(298));
        Due.due("with 299 LINES", Due.check(x, "u x2>=1;"), 0);
        Due.fault("with 299 LINES", x, 6, 7);
        Due.check(x, "p 1;");
        Due.due("with 300 LINES", Due.check(x, "u x2>=1;"), 0);
        Due.fault("with 300 LINES", x, 5, 7);
        Due.due("two on the STACK", Due.check(x, "p 1 1 ;"), 0);
        Due.fault("two on the STACK", x, 4, 6);
        Due.due("none on the STACK", Due.check(x, "p ;"), 0);
        Due.fault("none on the STACK", x, 4, 2);
        Due.due("one on the STACK", Due.check(x, "p 1 ;"), 0);
        Due.fault("one on the STACK", x, 5, 4);
    }

    private static void theFirstFromTheLeft() {
        Due.sentence("FAULTS, the first as TOKENS come from the left");
        loadFault(3, "x4>=1;?", 2, 0);
        loadFault(3, "x1>=1;? x4>=1;", 1, 6);
        loadFault(3, "x1>=1;".repeat(41) + "x4", 5, 245);
        loadFault(3, "x1>=1;".repeat(40) + "x4>=1;", 2, 240);
        loadFault(3, "x1>=1;".repeat(40) + "x1>=1", 1, 245);
        checkFault("p 3 0 * ;", 0, 2, 2);
        checkFault("p 0 * + ;", 0, 3, 2);
        checkFault("p + 3 ;", 0, 4, 2);
        checkFault("p 3 + ;", 0, 2, 2);
        checkFault("c 3 ?", 0, 2, 2);
        checkFault("c 1 ?", 0, 1, 4);
        checkFault("u x2>=1 ?", 0, 1, 8);
        checkFault("p 1 ; c 1 ; p 9 ;", 1, 6, 10);
        checkFault("p 1 ; p 1 1 ; p 9 ;", 1, 4, 12);
        checkFault("p 1 1 ;?", 0, 4, 6);
        checkFault("p 1 1 ?;", 0, 1, 6);
        Bench x = Due.loaded(3, "x1>=1;");
        Due.due("u that does not follow", Due.check(x, "u x2>=1 ; ?"), 0);
        Due.fault("u that does not follow", x, 6, 8);
    }

    /** Texts with a FAULT, LINES ahead of it. */
    private static final String[] BAD_PROBLEMS = {"?", "x1", "x1>=1;?", "x1>=1;x1>=1", "x1>=0;x4>=1;", "x1>=1;".repeat(41),
        "x1=0;".repeat(21), "x1>=1;#\u0000", "p 1 ;"};

    private static void loadWithAFaultChangesNothing() {
        Due.sentence("With a FAULT load() changes nothing but fault().");
        for (String text : BAD_PROBLEMS) {
            for (Map.Entry<String, Bench> state : States.all().entrySet()) {
                // Promise 4 has the tape empty then: so it is in the one that is compared with, too.
                Bench due = Due.write(state.getValue().copy(), text);
                due.back(text.length());
                Bench x = Due.write(state.getValue().copy(), text);
                String what = state.getKey() + ": " + text;
                Due.due(what + ": load()", x.load(), -1);
                Due.due(what + ": fault(0)", x.fault(0) > 0, true);
                Seen.same(what, Seen.whole(x), Seen.whole(due), FAULT_IS_FREE);
            }
        }
    }

    private static final String[] BAD_STEPS = {"?", "p", "p 1", "p x1 ? ;", "p x1 x4 + ;", "p 99 ;", "c 0 ;", "p x1 0 * ;",
        "p x1 x2 ;", "p x1 + ;", "p " + "x1 ".repeat(13) + ";", "p x1 " + (NINES + " * ").repeat(2) + ";", "c 99 ;", "u x1 <= 1 ;",
        "u x4 >= 0 ;", "p x1 ;#\u0000"};

    private static void checkGoesStepByStep() {
        Due.sentence("check() goes STEP by STEP: those ahead of the FAULT's are done, nothing of its own one.");
        for (Map.Entry<String, Bench> state : States.all().entrySet()) {
            int lines = state.getValue().count(0);
            for (String text : BAD_STEPS) {
                stepByStep(state.getKey(), state.getValue(), "", text);
                stepByStep(state.getKey(), state.getValue(), "p ~x3 3 * x1 + ;u x1 >= 0 ;p " + (lines + 1) + " 2 * ;", text);
            }
        }
        // FAULTS 6: LINE 1 is not FALSE, and what is claimed does not follow.
        stepByStep("LINES", Due.loaded(3, "x1>=1;"), "p 1 ;", "c 1 ;");
        stepByStep("LINES", Due.loaded(3, "x1>=1;"), "p 1 ;", "u x2 >= 1 ;");
        Due.sentence("(A text that can't be read to its end is done up to there.)");
        checkFault("p 1 ; p 1 ; p 1", 2, 1, 15);
        checkFault("p 1 ; p 1 ; p 1 ; \u0080", 3, 1, 18);
        claimFault("p 1 ; u >= 0 ; c 2 ; ~", 3, 2, 1, 21);
    }

    private static void stepByStep(String state, Bench from, String good, String bad) {
        String what = state + ": " + good + bad;
        Bench due = from.copy();
        int done = Due.check(due, good);
        Due.due(what + ": the good ones", done, good.length() - good.replace(";", "").length());
        Bench x = from.copy();
        // A STEP that is whole, ahead of a byte that is none, is no part of the FAULT's.
        boolean whole = bad.indexOf(';') >= 0 && bad.indexOf(';') < bad.indexOf('#');
        Due.due(what + ": check()", Due.check(x, good + bad + (whole ? "" : " p x1 ;")), done + (whole ? 1 : 0));
        Due.due(what + ": fault(0)", x.fault(0) > 0, true);
        if (!whole) {
            Seen.same(what, Seen.whole(x), Seen.whole(due), FAULT_IS_FREE);
        }
    }
}
