/** Promises 11 to 16: the search, its TRAIL and its PROOF. Answers worked out by hand. */
public final class SearchTest {
    public static void main(String[] args) {
        withoutLines();
        limitsOfRun();
        forcedOnes();
        choicesKeepTheirValues();
        backjump();
        weakened();
        multiplied();
        noneAtOnce();
        linesOfCheck();
        aBrokenLineOfCheck();
        aFalseLineOfCheck();
        fullByNumber();
        fullByLines();
        fullByProof();
        countsOfThisSearch();
        Due.end("SearchTest");
    }

    private static Bench begun(int v, String problem) {
        Bench x = Due.loaded(v, problem);
        Due.due("begin()", x.begin(), true);
        return x;
    }

    private static void counts(String what, Bench x, int... due) {
        for (int i = 0; i < due.length; i++) {
            Due.due(what + ": count(" + (i + 2) + ")", x.count(i + 2), due[i]);
        }
    }

    private static void withoutLines() {
        Bench x = new Bench(2);
        Due.due("begin()", x.begin(), true);
        counts("begun", x, 0, 1, 0, 0, 0, 0, 0);
        Due.due("run(0)", x.run(0), 0);
        Due.due("run(1)", x.run(1), 1);
        Due.due("TRAIL", Due.trail(x), "-1@1/0");
        Due.due("run(500)", x.run(500), 2);
        counts("SOLVED", x, 0, 2, 2, 2, 2, 0, 3);
        Due.due("TRAIL", Due.trail(x), "-1@1/0 -2@2/0");
        Due.due("value(1)", x.value(1), 0);
        Due.due("value(2)", x.value(2), 0);
        Due.due("run(1) at its end", x.run(1), 0);
        Due.due("ACTS", x.count(8), 3);
    }

    private static void limitsOfRun() {
        Bench x = new Bench(2);
        Due.due("run(1) without a search", x.run(1), -1);
        x.begin();
        for (int n : new int[] {Integer.MIN_VALUE, -1, 501, Integer.MAX_VALUE}) {
            Due.due("run(" + n + ")", x.run(n), -1);
        }
        Due.due("nothing happened", x.count(8), 0);
        Due.due("run(500)", x.run(500), 3);
        Due.due("run(501) at its end", x.run(501), -1);
        Due.due("run(500) at its end", x.run(500), 0);
    }

    private static void forcedOnes() {
        Bench x = begun(4, "x1x2x3>=1; 3~x3 2x2 2~x1>=6; x4>=1;");
        // LINE 2 has the REST 1 and FORCES all its LITERALS, one in an ACT, the least VARIABLE first.
        Due.due("run(1)", x.run(1), 1);
        Due.due("TRAIL", Due.trail(x), "-1@0/2");
        Due.due("value(1)", x.value(1), 0);
        Due.due("value(2)", x.value(2), -1);
        Due.due("run(3)", x.run(3), 3);
        Due.due("TRAIL", Due.trail(x), "-1@0/2 2@0/2 -3@0/2 4@0/3");
        Due.due("run(1)", x.run(1), 1);
        counts("SOLVED", x, 0, 2, 4, 0, 0, 0, 5);
        for (int odd : new int[] {Integer.MIN_VALUE, -1, 0, 5, 16, 17, Integer.MAX_VALUE}) {
            Due.due("value(" + odd + ")", x.value(odd), -1);
        }
        for (int odd : new int[] {Integer.MIN_VALUE, -1, 4, 16, Integer.MAX_VALUE}) {
            Due.due("trail(" + odd + ", 0)", x.trail(odd, 0), 0);
            Due.due("trail(1, " + odd + ")", x.trail(1, odd), 0);
        }
        Due.due("trail(1, 3)", x.trail(1, 3), 0);
        Due.due("proof(0)", x.proof(0), -1);
        Due.due("proof(-1)", x.proof(-1), -1);
    }

    private static void choicesKeepTheirValues() {
        // ~x1 FORCES x3, then x2; LINE 3 is BROKEN. K is 1 x1 >= 1: it FORCES at LEVEL 0. x3 and x2 had the value true.
        Bench x = begun(3, "x1x3>=1; x1x2>=1; x1~x2~x3>=1;");
        Due.due("run(3)", x.run(3), 3);
        Due.due("TRAIL", Due.trail(x), "-1@1/0 3@1/1 2@1/2");
        Due.due("run(1)", x.run(1), 1);
        Due.due("PROOF", Due.proof(x), "p 3 2 s + s 1 s + s ;\n");
        Due.due("LINE 4", Due.line(x, 4), "1 x1 >= 1");
        Due.due("origin(4)", x.origin(4), 4);
        counts("learned", x, 22, 1, 0, 0, 1, 1, 4);
        Due.due("run(500)", x.run(500), 4);
        Due.due("TRAIL", Due.trail(x), "1@0/4 2@1/0 3@2/0");
        counts("SOLVED", x, 22, 2, 3, 2, 3, 1, 8);
        x.begin();
        Due.due("no VARIABLE had a value", x.run(500), 4);
        Due.due("TRAIL", Due.trail(x), "1@0/4 -2@1/0 -3@2/0");
        Due.due("no PROOF", x.count(2), 0);
    }

    private static void backjump() {
        // CHOICES ~x1, ~x2, ~x3; LINES 1 and 2 say that x3 is true when x1 is not: from LEVEL 3 back to 1.
        Bench x = begun(5, "x1x3x4>=1; x1x3~x4>=1;");
        Due.due("run(4)", x.run(4), 4);
        Due.due("TRAIL", Due.trail(x), "-1@1/0 -2@2/0 -3@3/0 4@3/1");
        Due.due("run(1)", x.run(1), 1);
        Due.due("TRAIL", Due.trail(x), "-1@1/0");
        counts("back", x, 14, 1, 1, 1, 3, 1, 5);
        Due.due("PROOF", Due.proof(x), "p 2 1 s + s ;\n");
        Due.due("LINE 3", Due.line(x, 3), "1 x1 1 x3 >= 1");
        Due.due("run(1)", x.run(1), 1);
        Due.due("TRAIL", Due.trail(x), "-1@1/0 3@1/3");
        Due.due("run(500)", x.run(500), 4);
        Due.due("TRAIL", Due.trail(x), "-1@1/0 3@1/3 -2@2/0 4@3/0 -5@4/0");
    }

    private static void weakened() {
        // ~x1: LINE 1 has the REST 2 and FORCES x2. In it x3 (2) and x4 (1) are OPEN, no multiples of 3, and go.
        Bench x = begun(4, "3x1 3x2 2x3 x4>=4; x1~x2>=1;");
        Due.due("run(1)", x.run(1), 1);
        Due.due("run(1)", x.run(1), 1);
        Due.due("TRAIL", Due.trail(x), "-1@1/0 2@1/1");
        Due.due("run(1)", x.run(1), 1);
        Due.due("PROOF", Due.proof(x), "p 2 1 x3 w x4 w 3 d s + s ;\n");
        Due.due("LINE 3", Due.line(x, 3), "1 x1 >= 1");
        Due.due("TRAIL", Due.trail(x), "");
        Bench y = begun(4, "3x1 3x2 3x3 x4>=4; x1~x2>=1;");
        Due.due("nothing is FORCED yet", y.run(1), 1);
        Due.due("TRAIL", Due.trail(y), "-1@1/0");
    }

    private static void multiplied() {
        // LINE 2 is 2 ~x2 1 x1 1 x3 >= 2: BROKEN by ~x1, x2 with x3 OPEN; 2 times LINE 1 is taken.
        Bench x = begun(3, "x1x2>=1; x1 -2x2 x3>=0;");
        Due.due("run(2)", x.run(2), 2);
        Due.due("TRAIL", Due.trail(x), "-1@1/0 2@1/1");
        Due.due("run(1)", x.run(1), 1);
        Due.due("TRAIL", Due.trail(x), "");
        Due.due("PROOF", Due.proof(x), "p 2 1 s 2 * + s ;\n");
        Due.due("LINE 3", Due.line(x, 3), "2 x1 1 x3 >= 2");
        Due.due("run(1)", x.run(1), 1);
        Due.due("TRAIL", Due.trail(x), "1@0/3");
    }

    private static void noneAtOnce() {
        Bench x = begun(2, "x1>=1;~x1x2>=1;~x2>=1;");
        Due.due("run(500)", x.run(500), 3);
        Due.due("PROOF", Due.proof(x), "p 3 2 s + s 1 s + s ;\nc 4 ;\n");
        counts("NONE", x, 28, 3, 2, 0, 0, 1, 3, 1);
        Due.due("the TRAIL stays", Due.trail(x), "1@0/1 2@0/2");
        Due.due("the last byte", x.proof(27), 10);
        Due.due("behind it", x.proof(28), -1);
        Due.due("run(1) at its end", x.run(1), 0);
        Bench y = Due.loaded(2, "x1>=1;~x1x2>=1;~x2>=1;");
        Due.due("the checker takes the PROOF", Due.check(y, Due.proof(x)), 2);
        Due.due("without a FAULT", y.fault(0), 0);
    }

    private static void linesOfCheck() {
        Bench x = begun(3, "x1x2x3>=1;");
        x.run(1);
        Due.check(x, "p 1 x1 w ; u x1 x2 x3 >= 1 ;");
        Due.due("a LINE that is no news", x.count(0), 3);
        Due.due("run(1)", x.run(1), 1);
        Due.due("TRAIL", Due.trail(x), "-1@1/0 -2@2/0");
        Due.due("run(1)", x.run(1), 1);
        Due.due("TRAIL", Due.trail(x), "-1@1/0 -2@2/0 3@2/1");
        Bench y = begun(3, "~x2~x3>=1; ~x2x3>=1;");
        y.run(1);
        Due.check(y, "u ~x2 >= 1 ;");
        Due.due("run(1)", y.run(1), 1);
        Due.due("it is looked at, with this LEVEL", Due.trail(y), "-1@1/0 -2@1/3");
    }

    /** Of x3, x4, x5 one at most: a SUM and a division find more than FORCING does. */
    private static final String ONE_AT_MOST = "~x3~x4>=1; ~x3~x5>=1; ~x4~x5>=1; ";

    private static void aBrokenLineOfCheck() {
        Bench x = begun(5, ONE_AT_MOST + "x1x3x4x5>=2;");
        x.run(2);
        Due.due("TRAIL", Due.trail(x), "-1@1/0 -2@2/0");
        Due.due("a p", Due.check(x, "p 1 2 + 3 + 2 d 4 + ;"), 1);
        Due.due("LINE 5", Due.line(x, 5), "1 x1 >= 1");
        // BROKEN at LEVEL 1 already, and it FORCES x1 at LEVEL 0: READY at once.
        Due.due("run(1)", x.run(1), 1);
        Due.due("PROOF", Due.proof(x), "p 5 ;\n");
        Due.due("LINE 6", Due.line(x, 6), "1 x1 >= 1");
        Due.due("origin(6)", x.origin(6), 4);
        counts("at LEVEL 0", x, 6, 1, 0, 0, 2, 1, 3);
        Due.due("run(1)", x.run(1), 1);
        Due.due("the first LINE that FORCES", Due.trail(x), "1@0/5");
    }

    private static void aFalseLineOfCheck() {
        Bench x = begun(5, ONE_AT_MOST + "x3x4x5>=2;");
        x.run(2);
        Due.due("TRAIL", Due.trail(x), "-1@1/0 -2@2/0");
        Due.check(x, "p 1 2 + 3 + 2 d 4 + ;");
        Due.due("LINE 5", Due.line(x, 5), ">= 1");
        Due.due("run(1)", x.run(1), 1);
        counts("BROKEN at LEVEL 0, seen at LEVEL 2", x, 6, 1, 0, 0, 2, 1, 3, 2);
        Due.due("run(500)", x.run(500), 1);
        Due.due("PROOF", Due.proof(x), "p 5 ;\np 5 ;\nc 7 ;\n");
        counts("NONE", x, 18, 3, 0, 0, 2, 2, 4, 3);
    }

    private static void fullByNumber() {
        // ~x1 lets LINE 1 FORCE x2, which has 1 in it, and x3; LINE 2, BROKEN then, would take LINE 1 10 to the 50 times.
        String h = "1" + "0".repeat(50);
        String more = "1" + "0".repeat(49) + "1";
        Bench x = begun(3, "x2 " + h + "x1 " + h + "x3>=" + more + "; " + h + "~x2 " + h + "x1>=" + h + ";");
        Due.due("run(3)", x.run(3), 3);
        Due.due("TRAIL", Due.trail(x), "-1@1/0 2@1/1 3@1/1");
        Due.due("run(500)", x.run(500), 1);
        counts("FULL", x, 0, 4, 3, 1, 1, 0, 4);
        Due.due("TRAIL", Due.trail(x), "-1@1/0 2@1/1 3@1/1");
        Due.due("LINES", x.count(0), 2);
        Due.due("proof(0)", x.proof(0), -1);
        Due.due("run(1)", x.run(1), 0);
        Due.due("value(1)", x.value(1), 0);
        Due.due("value(2)", x.value(2), 1);
    }

    private static void fullByLines() {
        Bench x = Due.loaded(3, "x1x3>=1; x1x2>=1; x1~x2~x3>=1;");
        Due.check(x, "p 1;".repeat(297));
        Due.due("LINES", x.count(0), 300);
        x.begin();
        Due.due("run(500)", x.run(500), 4);
        counts("FULL", x, 0, 4, 3, 1, 1, 0, 4);
        Due.due("TRAIL", Due.trail(x), "-1@1/0 3@1/1 2@1/2");
        Bench y = Due.loaded(3, "x1x3>=1; x1x2>=1; x1~x2~x3>=1;");
        Due.check(y, "p 1;".repeat(296));
        y.begin();
        Due.due("run(4)", y.run(4), 4);
        Due.due("the 300th LINE", y.count(0), 300);
        Due.due("goes on", y.count(3), 1);
        Bench z = Due.loaded(1, ">=1;");
        Due.check(z, "p 1;".repeat(299));
        z.begin();
        Due.due("run(500)", z.run(500), 1);
        Due.due("FULL, not NONE", z.count(3), 4);
    }

    /** Three sums of great numbers that are hard to meet. */
    private static Bench searched(int seed) {
        StringBuilder text = new StringBuilder();
        java.util.Random r = new java.util.Random(seed);
        for (int i = 0; i < 3; i++) {
            java.math.BigInteger sum = java.math.BigInteger.ZERO;
            for (int n = 1; n <= 16; n++) {
                java.math.BigInteger c = new java.math.BigInteger(60, r).add(java.math.BigInteger.ONE);
                text.append(c).append('x').append(n).append(' ');
                sum = sum.add(r.nextBoolean() ? c : java.math.BigInteger.ZERO);
            }
            text.append('=').append(sum).append(";\n");
        }
        Bench x = begun(16, text.toString());
        int acts = 0;
        for (int i = 0; i < 20 && x.count(3) == 1; i++) {
            acts += x.run(500);
        }
        Due.due("ACTS", x.count(8), acts);
        return x;
    }

    /** Great numbers make a long PROOF: it ends with a STEP that is whole. */
    private static void fullByProof() {
        Bench x = searched(5);
        Due.due("FULL", x.count(3), 4);
        Due.due("not by LINES", x.count(0) < 300, true);
        Due.due("near the limit", x.count(2) > 18000 && x.count(2) <= 20000, true);
        Due.due("the last byte", x.proof(x.count(2) - 1), 10);
        Due.due("the one ahead of it", x.proof(x.count(2) - 2), ';');
        Due.due("LINES learned", x.count(0) - x.count(1), x.count(7));
        int steps = Due.proof(x).split("\n").length;
        Due.due("a STEP for each", steps, x.count(7));
        Due.due("20,000 bytes are not too many", searched(167).count(2), 20000);
        Due.due("20,001 bytes are", searched(102).count(2) < 20000, true);
    }

    private static void countsOfThisSearch() {
        Bench x = begun(3, "x1x3>=1; x1x2>=1; x1~x2~x3>=1;");
        x.run(6);
        counts("six ACTS", x, 22, 1, 2, 1, 2, 1, 6);
        x.begin();
        counts("begun again", x, 0, 1, 0, 0, 0, 0, 0);
        Due.due("LINES stay", x.count(0), 4);
        Due.due("value(1)", x.value(1), -1);
        x.run(2);
        counts("two ACTS", x, 0, 1, 2, 1, 1, 0, 2);
        Due.write(x, "?");
        x.load();
        counts("a FAULT changes nothing", x, 0, 1, 2, 1, 1, 0, 2);
        x.load();
        counts("a load() ends it", x, 0, 0, 0, 0, 0, 0, 0);
    }
}
