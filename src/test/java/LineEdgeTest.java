import java.math.BigInteger;

/** Terms, 1: LINES. For each sentence that names a boundary: on it, and one step to either side. */
public final class LineEdgeTest {
    private static final BigInteger ONE = BigInteger.ONE;
    /** 2 to the 128. A, 1 less, times B, 1 more, is the greatest number there is. */
    private static final BigInteger HALF = ONE.shiftLeft(128);
    private static final BigInteger A = HALF.subtract(ONE);
    private static final BigInteger B = HALF.add(ONE);
    private static final BigInteger MOST = ONE.shiftLeft(256).subtract(ONE);
    private static final BigInteger TOP = ONE.shiftLeft(255);

    public static void main(String[] args) {
        coefficientsOfOneAndMore();
        degreesOfNoughtAndMore();
        holdsAtTheDegree();
        roomOfTimes();
        roomOfSums();
        roomOfSumsWhenAllIsDone();
        roomChangesNothing();
        sums();
        degreesOfSums();
        times();
        divided();
        dividedAtMultiples();
        cut();
        without();
        falseLines();
        broken();
        forces();
        greatRests();
        nothingIsLeft();
        Due.end("LineEdgeTest");
    }

    /** Of V VARIABLES, with a PROBLEM and STEPS, all of which are done. */
    private static Bench bench(int v, String problem, String steps) {
        Bench x = Due.loaded(v, problem);
        int due = steps.length() - steps.replace(";", "").length();
        Due.due(steps + " done", Due.check(x, steps), due);
        Due.fault(steps, x, 0, -1);
        return x;
    }

    /** The one LINE of a PROBLEM. */
    private static void problem(String text, String line) {
        Bench x = new Bench(2);
        Due.due(text + " load()", Due.load(x, text), 1);
        Due.due(text, Due.line(x, 1), line);
    }

    /** The LINE that a p makes of the LINES of a PROBLEM. */
    private static void step(String problem, String step, String line) {
        Bench x = bench(4, problem, step);
        Due.due(problem + " " + step, Due.line(x, x.count(0)), line);
    }

    private static void coefficientsOfOneAndMore() {
        Due.sentence("for each VARIABLE at most one of its LITERALS, with a COEFFICIENT of 1 and more");
        problem("2x1>=1;", "2 x1 >= 1");
        problem("1x1>=1;", "1 x1 >= 1");
        problem("0x1>=1;", ">= 1");
        problem("-1x1>=0;", "1 ~x1 >= 1");
        problem("3x1 2~x1>=3;", "1 x1 >= 1");
        problem("3x1 3~x1>=3;", ">= 0");
        problem("3x1 4~x1>=4;", "1 ~x1 >= 1");
        problem("x2 5x1 -4x1>=1;", "1 x1 1 x2 >= 1");
        problem("x2 5x1 -5x1>=1;", "1 x2 >= 1");
        problem("x2 5x1 -6x1>=0;", "1 ~x1 1 x2 >= 1");
    }

    private static void degreesOfNoughtAndMore() {
        Due.sentence("a DEGREE of 0 and more; a DEGREE that would be below 0 is 0");
        problem("x1>=1;", "1 x1 >= 1");
        problem("x1>=0;", "1 x1 >= 0");
        problem("x1>=-1;", "1 x1 >= 0");
        problem("x1>=-" + "9".repeat(60) + ";", "1 x1 >= 0");
        problem("-3x1>=-2;", "3 ~x1 >= 1");
        problem("-3x1>=-3;", "3 ~x1 >= 0");
        problem("-3x1>=-4;", "3 ~x1 >= 0");
        problem("x1<=0;", "1 ~x1 >= 1");
        problem("x1<=1;", "1 ~x1 >= 0");
        problem("x1<=2;", "1 ~x1 >= 0");
        // It is not made 0 before all has come to it.
        problem("-3x1 -3x2>=-5;", "3 ~x1 3 ~x2 >= 1");
        problem("~x1 ~x2 -1x1>=0;", "2 ~x1 1 ~x2 >= 1");
    }

    private static void holdsAtTheDegree() {
        Due.sentence("It holds when the COEFFICIENTS of its true LITERALS come to the DEGREE or more together.");
        Bench x = Due.loaded(3, "2x1 3~x2>=4; 2x1 3~x2>=5; 2x1 3~x2>=6; 2x1 3~x2>=2; 2x1 3~x2>=3; >=0; >=1;");
        // The sums by the mask's two bits: 3, 5, 0, 2.
        boolean[][] due = {{false, true, false, false}, {false, true, false, false}, {false, false, false, false},
            {true, true, false, true}, {true, true, false, false}, {true, true, true, true}, {false, false, false, false}};
        for (int k = 1; k <= 7; k++) {
            for (int mask = 0; mask < 4; mask++) {
                Due.due("holds(" + k + ", " + mask + ")", x.holds(k, mask), due[k - 1][mask]);
            }
        }
        // LINE 3: MOST x1 >= MOST; 4: MOST x1 1 x2 >= MOST; 5: MOST-1 x1 1 x2 >= MOST; 6: MOST-2 x1 1 x2 >= MOST.
        Bench y = bench(2, A + "x1>=" + A + ";>=1;", "p 1 " + B + " *;p 3 x2+;p 3~x1+2+x2+;p 3~x1 2*+2 2*+x2+;");
        Due.due("LINE 5", Due.line(y, 5), MOST.subtract(ONE) + " x1 1 x2 >= " + MOST);
        Due.due("LINE 6", Due.line(y, 6), MOST.subtract(ONE).subtract(ONE) + " x1 1 x2 >= " + MOST);
        boolean[][] great = {{false, true, false, true}, {false, true, false, true}, {false, false, false, true},
            {false, false, false, false}};
        for (int k = 3; k <= 6; k++) {
            for (int mask = 0; mask < 4; mask++) {
                Due.due("great holds(" + k + ", " + mask + ")", y.holds(k, mask), great[k - 3][mask]);
            }
        }
    }

    private static void noRoom(String problem, String step, int place) {
        Bench x = Due.loaded(16, problem);
        int lines = x.count(0);
        Due.due(problem + " " + step, Due.check(x, step), 0);
        Due.fault(problem + " " + step, x, 5, place);
        Due.due(problem + " " + step + ": LINES", x.count(0), lines);
    }

    private static void roomOfTimes() {
        Due.sentence("Numbers are whole, below 2 to the 256: where a COEFFICIENT or the DEGREE of TIMES would be greater: ROOM");
        String factor = "p 1 " + HALF + " * ;";
        for (String literal : new String[] {"x1", "~x1", "x16", "~x16"}) {
            Bench x = bench(16, A + literal + ">=0;", "p 1 " + B + "*;p 1 " + HALF + "*;");
            Due.due("the greatest", Due.line(x, 2), MOST + " " + literal + " >= 0");
            Due.due("less", Due.line(x, 3), MOST.subtract(A) + " " + literal + " >= 0");
            noRoom(HALF + literal + ">=0;", factor, 44);
            noRoom(B + literal + ">=0;", factor, 44);
        }
        Bench x = bench(16, ">=" + A + ";", "p 1 " + B + "*;p 2 1*;");
        Due.due("the greatest DEGREE", Due.line(x, 2), ">= " + MOST);
        Due.due("once", Due.line(x, 3), ">= " + MOST);
        noRoom(">=" + HALF + ";", factor, 44);
        noRoom(">=" + B + ";", factor, 44);
        // Both have no ROOM, or more than the next word goes over.
        noRoom(HALF + "x3>=" + HALF + ";", factor, 44);
        String over = "p 1 " + HALF + " * " + A + " * 1 * " + HALF + " * ;";
        noRoom("x3>=1;", over, over.lastIndexOf('*'));
    }

    private static void roomOfSums() {
        Due.sentence("where a COEFFICIENT or the DEGREE of what a SUM makes would be greater: ROOM");
        for (String literal : new String[] {"x1", "~x1", "x16", "~x16"}) {
            // LINE 3: MOST of it; 4: 1 less.
            String problem = A + literal + ">=0;" + literal + ">=0;";
            String opposite = literal.startsWith("~") ? literal.substring(1) : "~" + literal;
            String made = "p 1 " + B + "*;p 3 " + opposite + " + ;";
            Bench x = bench(16, problem, made + "p 4 2 +;");
            Due.due("1 less", Due.line(x, 4), MOST.subtract(ONE) + " " + literal + " >= 0");
            Due.due("the greatest", Due.line(x, 5), MOST + " " + literal + " >= 0");
            Due.due("1 more", Due.check(x, "p 3 2 + ;"), 0);
            Due.fault("1 more", x, 5, 6);
            Due.due("1 more, the other way round", Due.check(x, "p 2 3 + ;"), 0);
            Due.fault("1 more, the other way round", x, 5, 6);
            Due.due("twice the greatest", Due.check(x, "p 3 3 + ;"), 0);
            Due.fault("twice the greatest", x, 5, 6);
        }
        // LINE 3: the DEGREE is MOST; 4: a LITERAL and its opposite make it 1 less.
        Bench y = bench(2, ">=" + A + ";>=1;", "p 1 " + B + "*;p 3 x1 + ~x1 + ;p 4 2 + ;");
        Due.due("a DEGREE of 1 less", Due.line(y, 4), ">= " + MOST.subtract(ONE));
        Due.due("the greatest DEGREE", Due.line(y, 5), ">= " + MOST);
        Due.due("1 more", Due.check(y, "p 3 2 + ;"), 0);
        Due.fault("1 more", y, 5, 6);
        Due.due("1 more, the other way round", Due.check(y, "p 2 3 + ;"), 0);
        Due.fault("1 more, the other way round", y, 5, 6);
    }

    private static void roomOfSumsWhenAllIsDone() {
        Due.sentence("(of a SUM when all is done)");
        // LINES 4 and 5: MOST of x1 and of ~x1, with MOST; 6: MOST - 1 of ~x1 with MOST - 1; 7: the same with MOST.
        Bench x = bench(3, A + "x1>=" + A + ";" + A + "~x1>=" + A + ";>=1;",
            "p 1 " + B + "*;p 2 " + B + "*;p 5 x1+;p 6 3+;");
        Due.due("LINE 7", Due.line(x, 7), MOST.subtract(ONE) + " ~x1 >= " + MOST);
        Due.due("MOST and MOST less MOST", Due.check(x, "p 4 5 + ;p 5 4 + ;p 4 6 +;"), 3);
        Due.due("of equal ones both go", Due.line(x, 8), ">= " + MOST);
        Due.due("the other way round", Due.line(x, 9), ">= " + MOST);
        Due.due("MOST and MOST - 1 less MOST - 1", Due.line(x, 10), "1 x1 >= " + MOST);
        Due.due("MOST and MOST less MOST - 1", Due.check(x, "p 4 7 + ;"), 0);
        Due.fault("MOST and MOST less MOST - 1", x, 5, 6);
        Due.due("the other way round", Due.check(x, "p 7 4 + ;"), 0);
        Due.fault("the other way round", x, 5, 6);
        // Twice 2 to the 255 goes off: what is left is TOP + TOP - 1 + MOST - 2 TOP; with one VARIABLE it is too much.
        String half = HALF.shiftRight(1) + "";
        Bench y = bench(3, half + "x1 " + half + "x2>=0;" + half + "~x1 " + half + "~x2>=0;" + half + "~x1>=0;>=" + A + ";",
            "p 1 " + HALF + "*4 " + B + "*+;p 2 " + HALF + "*4 " + B + "*+;p 3 " + HALF + "*4 " + B + "*+;");
        Due.due("LINE 5", Due.line(y, 5), TOP + " x1 " + TOP + " x2 >= " + MOST);
        Due.due("two VARIABLES", Due.check(y, "p 5 6+;"), 1);
        Due.due("what is left", Due.line(y, 8), ">= " + MOST.subtract(ONE));
        Due.due("one VARIABLE", Due.check(y, "p 5 7+;"), 0);
        Due.fault("one VARIABLE", y, 5, 5);
        // A COEFFICIENT has no ROOM though the DEGREE has, and though VARIABLES behind it have.
        Bench z = bench(3, half + "x1 x2 x3>=0;" + half + "x1 ~x2 x3>=0;", "p 1 " + HALF + "*;p 2 " + HALF + "*;");
        Due.due("the COEFFICIENT of x1", Due.check(z, "p 3 4 + ;"), 0);
        Due.fault("the COEFFICIENT of x1", z, 5, 6);
    }

    private static void roomChangesNothing() {
        Due.sentence("FAULT 5: nothing of its own STEP is done");
        String problem = A + "x1 x2>=" + A + ";x1 x2>=1;";
        Bench due = Due.loaded(2, problem);
        Due.check(due, "p 2 1 +;");
        String[] texts = {"p 2 1 +;p 1 " + B + "* 2 + ;p 2;", "p 2 1 +;p 2 1 + " + B + " *;p 2;"};
        for (String text : texts) {
            Bench x = Due.loaded(2, problem);
            Due.due(text, Due.check(x, text), 1);
            Due.fault(text, x, 5, Math.max(text.lastIndexOf("+ ;"), text.indexOf(" *;") + 1));
            Seen.same(text, Seen.whole(x), Seen.whole(due), "fault(0)", "fault(1)", "run(40), fault(0)", "run(40), fault(1)");
        }
    }

    private static void sums() {
        Due.sentence("where both LITERALS of a VARIABLE stand, the lesser COEFFICIENT (of equal ones both) goes");
        for (String plus : new String[] {"p 1 2+;", "p 2 1+;"}) {
            step("3x1>=5;2~x1>=5;", plus, "1 x1 >= 8");
            step("3x1>=5;3~x1>=5;", plus, ">= 7");
            step("3x1>=5;4~x1>=5;", plus, "1 ~x1 >= 7");
            step("3x1 x2>=5;3~x1 x3>=5;", plus, "1 x2 1 x3 >= 7");
            step("3x1>=5;2x1>=5;", plus, "5 x1 >= 10");
            step("3x1>=5;2x2>=5;", plus, "3 x1 2 x2 >= 10");
            step("3x1>=5;>=0;", plus, "3 x1 >= 5");
            step(HALF + "x1>=" + HALF + ";" + A + "~x1>=0;", plus, "1 x1 >= 1");
            step(HALF + "x1>=" + HALF + ";" + HALF + "~x1>=0;", plus, ">= 0");
            step(HALF + "x1>=" + HALF + ";" + B + "~x1>=0;", plus, "1 ~x1 >= 0");
        }
    }

    private static void degreesOfSums() {
        Due.sentence("A DEGREE that would be below 0 is 0, here and below");
        for (String plus : new String[] {"p 1 2+;", "p 2 1+;"}) {
            step("3x1>=2;3~x1>=2;", plus, ">= 1");
            step("3x1>=2;3~x1>=1;", plus, ">= 0");
            step("3x1>=1;3~x1>=1;", plus, ">= 0");
            step("3x1 2x2>=1;3~x1 2~x2>=4;", plus, ">= 0");
            step("3x1 2x2>=2;3~x1 2~x2>=4;", plus, ">= 1");
            step("3x1 2x2>=0;3~x1 2~x2>=4;", plus, ">= 0");
            // The lesser one of a VARIABLE behind it must not lift a DEGREE of 0.
            step("9x1 2x2>=1;9~x1 2~x2>=1;", plus, ">= 0");
            step(HALF + "x1>=" + A + ";" + HALF + "~x1>=2;", plus, ">= 1");
            step(HALF + "x1>=" + A + ";" + HALF + "~x1>=1;", plus, ">= 0");
            step(HALF + "x1>=" + A + ";" + HALF + "~x1>=0;", plus, ">= 0");
        }
    }

    private static void times() {
        Due.sentence("TIMES n, n at least 1: all numbers of it.");
        step("3x1 2~x2>=4;", "p 1 1*;", "3 x1 2 ~x2 >= 4");
        step("3x1 2~x2>=4;", "p 1 2*;", "6 x1 4 ~x2 >= 8");
        step("3x1 2~x2>=0;", "p 1 2*;", "6 x1 4 ~x2 >= 0");
        step("4294967295x1 1~x2>=65536;", "p 1 65537*;", "281479271612415 x1 65537 ~x2 >= 4295032832");
        Bench x = Due.loaded(2, "3x1>=4;");
        Due.due("n 0", Due.check(x, "p 1 0*;"), 0);
        Due.fault("n 0", x, 3, 4);
    }

    private static void divided() {
        Due.sentence("DIVIDED by n, n at least 1: all numbers of it, rounded up.");
        step("1x1 2~x2 3x3 4~x4>=5;", "p 1 1d;", "1 x1 2 ~x2 3 x3 4 ~x4 >= 5");
        step("1x1 2~x2 3x3 4~x4>=5;", "p 1 3d;", "1 x1 1 ~x2 1 x3 2 ~x4 >= 2");
        step("5x1 6~x2 7x3 8~x4>=6;", "p 1 3d;", "2 x1 2 ~x2 3 x3 3 ~x4 >= 2");
        step("5x1 6~x2 7x3 8~x4>=7;", "p 1 3d;", "2 x1 2 ~x2 3 x3 3 ~x4 >= 3");
        step("5x1 6~x2 7x3 8~x4>=0;", "p 1 3d;", "2 x1 2 ~x2 3 x3 3 ~x4 >= 0");
        step("5x1 6~x2>=1;", "p 1 " + "9".repeat(60) + "d;", "1 x1 1 ~x2 >= 1");
        Bench x = Due.loaded(2, "3x1>=4;");
        Due.due("n 0", Due.check(x, "p 1 0d;"), 0);
        Due.fault("n 0", x, 3, 4);
        // LINE 2: MOST, which B divides; 3: 1 less; 4: 2 to the 129 times B less 2 to the 128.
        Bench y = bench(2, A + "x1>=" + A + ";", "p 1 " + B + "*;p 2 ~x1+;p 2 " + B + "d;p 3 " + B + "d;p 2 " + A + "d;");
        Due.due("without a rest", Due.line(y, 4), A + " x1 >= " + A);
        Due.due("with one", Due.line(y, 5), A + " x1 >= " + A);
        Due.due("by the other", Due.line(y, 6), B + " x1 >= " + B);
        BigInteger word = ONE.shiftLeft(64);
        BigInteger three = BigInteger.valueOf(3);
        for (int more = -1; more <= 1; more++) {
            BigInteger n = word.multiply(three).add(BigInteger.valueOf(more));
            BigInteger due = more > 0 ? word.add(ONE) : word;
            step(n + "x1>=" + n + ";", "p 1 3d;", due + " x1 >= " + due);
        }
        BigInteger n = word.subtract(ONE).multiply(three);
        step(n + "x1>=" + n.add(ONE) + ";", "p 1 3d;", word.subtract(ONE) + " x1 >= " + word);
        step(n + "x1>=" + n + ";", "p 1 " + n + "d;", "1 x1 >= 1");
        step(n + "x1>=" + n + ";", "p 1 " + n.subtract(ONE) + "d;", "2 x1 >= 2");
        step(n + "x1>=" + n + ";", "p 1 " + n.add(ONE) + "d;", "1 x1 >= 1");
    }

    /** Words of 32 bits at their edges: there long division guesses too high, and has to go back. */
    private static BigInteger edgy(java.util.Random r) {
        long[] words = {0, 1, 2, 3, 0x7fffffffL, 0x80000000L, 0x80000001L, 0xfffffffdL, 0xfffffffeL, 0xffffffffL};
        BigInteger n = BigInteger.valueOf(1 + r.nextInt(3));
        for (int i = r.nextInt(5); i > 0; i--) {
            long word = r.nextInt(6) == 0 ? r.nextInt() & 0xffffffffL : words[r.nextInt(words.length)];
            n = n.shiftLeft(32).add(BigInteger.valueOf(word));
        }
        return n.shiftRight(r.nextInt(6)).max(BigInteger.TWO);
    }

    private static void dividedAtMultiples() {
        Due.sentence("DIVIDED by n: rounded up; a multiple of n is not, nor does 1 less make it less");
        String[] hard = {"9903520317165345960575893504 3774966190", "4951760158582672980220837888 1729382256641835008",
            "12379400391700881245323919359 1729382256507617280", "36893488143124135935 36893488147419103231",
            "30727906349924503421 36893488147419103231", "36893488157217053707 36893488143124135935"};
        for (String two : hard) {
            atMultiple(new BigInteger(two.split(" ")[0]), new BigInteger(two.split(" ")[1]));
        }
        java.util.Random r = new java.util.Random(17);
        for (int i = 0; i < 4000; i++) {
            atMultiple(edgy(r), edgy(r));
        }
    }

    /** LINES of n times as much, 1 less and 1 more, DIVIDED by n. */
    private static void atMultiple(BigInteger n, BigInteger much) {
        if (n.multiply(much).compareTo(MOST) >= 0) {
            return;
        }
        String times = "p 1 " + much + " * ";
        Bench x = Due.loaded(1, n + "x1>=" + n + ";");
        String by = n + " d ;";
        Due.due(n + " times " + much, Due.check(x, times + by + times + "~x1 + " + by + times + "x1 + " + by), 3);
        Due.due(n + " times " + much, Due.line(x, 2), much + " x1 >= " + much);
        Due.due(n + " times " + much + ", 1 less", Due.line(x, 3), much + " x1 >= " + much);
        Due.due(n + " times " + much + ", 1 more", Due.line(x, 4), much.add(ONE) + " x1 >= " + much);
    }

    private static void cut() {
        Due.sentence("CUT: COEFFICIENTS above the DEGREE become the DEGREE.");
        step("3x1 4~x2 5x3 9~x4>=4;", "p 1 s;", "3 x1 4 ~x2 4 x3 4 ~x4 >= 4");
        step("3x1 4~x2 5x3 9~x4>=3;", "p 1 s;", "3 x1 3 ~x2 3 x3 3 ~x4 >= 3");
        step("3x1 4~x2 5x3 9~x4>=1;", "p 1 s;", "1 x1 1 ~x2 1 x3 1 ~x4 >= 1");
        step("3x1 4~x2 5x3 9~x4>=9;", "p 1 s;", "3 x1 4 ~x2 5 x3 9 ~x4 >= 9");
        step("3x1 4~x2 5x3 9~x4>=8;", "p 1 s;", "3 x1 4 ~x2 5 x3 8 ~x4 >= 8");
        step(HALF + "x1 " + A + "~x2 " + B + "x3>=" + HALF + ";", "p 1 s;",
            HALF + " x1 " + A + " ~x2 " + HALF + " x3 >= " + HALF);
        step("4294967296x1 4294967295x2 4294967297x3>=4294967296;", "p 1 s;",
            "4294967296 x1 4294967295 x2 4294967296 x3 >= 4294967296");
        Due.sentence("a COEFFICIENT of 0: the LITERAL is gone");
        step("3x1 4~x2 1x3>=0;", "p 1 s;", ">= 0");
        step(">=0;", "p 1 s;", ">= 0");
        step("1x1>=0;", "p 1 s x1 + ;", "1 x1 >= 0");
        step("1x1>=0;", "p 1 s ~x1 + ;", "1 ~x1 >= 0");
    }

    private static void without() {
        Due.sentence("WITHOUT a VARIABLE: its LITERAL goes, its COEFFICIENT off the DEGREE (nothing, where it has none).");
        for (String which : new String[] {"p 1 x1 w;", "p 1 ~x1 w;"}) {
            step("3x1 x2>=4;", which, "1 x2 >= 1");
            step("3x1 x2>=3;", which, "1 x2 >= 0");
            step("3x1 x2>=2;", which, "1 x2 >= 0");
            step("3~x1 x2>=4;", which, "1 x2 >= 1");
            step("5x2 5x3>=4;", which, "5 x2 5 x3 >= 4");
            step(HALF + "x1>=" + B + ";", which, ">= 1");
            step(HALF + "x1>=" + HALF + ";", which, ">= 0");
            step(HALF + "x1>=" + A + ";", which, ">= 0");
        }
        step("3x1 x2>=4;", "p 1 x1 w x1 w;", "1 x2 >= 1");
        step("3x1 x4>=4;", "p 1 x4 w;", "3 x1 >= 3");
        step("3x1 x2>=4;", "p 1 x1 w x1 +;", "1 x1 1 x2 >= 1");
    }

    private static void isFalse(String problem, String steps, int k, boolean due) {
        Bench x = bench(3, problem, steps);
        int others = 0;
        for (int i = 1; i < k; i++) {
            others += Due.check(x, "c " + i + ";");
        }
        Due.due(problem + steps + " count(9)", x.count(9), others + (due ? 1 : 0));
        Due.due(problem + steps + " c", Due.check(x, "c " + k + ";"), due ? 1 : 0);
        Due.fault(problem + steps, x, due ? 0 : 6, due ? -1 : 3);
    }

    private static void falseLines() {
        Due.sentence("A LINE is FALSE when all its COEFFICIENTS together are below its DEGREE.");
        isFalse("2x1 3~x2>=4;", "", 1, false);
        isFalse("2x1 3~x2>=5;", "", 1, false);
        isFalse("2x1 3~x2>=6;", "", 1, true);
        for (int degree = 4; degree <= 6; degree++) {
            for (String line : new String[] {"3~x1 2x2>=", "3x1 2x2>=", "3~x1 2~x2>=", "5~x1>=", "5x3>=", "5~x3>="}) {
                isFalse(line + degree + ";", "", 1, degree == 6);
                isFalse(line + degree + ";", "p 1;", 2, degree == 6);
                isFalse(line + degree + ";", "u " + line + degree + ";", 2, degree == 6);
            }
        }
        isFalse(">=0;", "", 1, false);
        isFalse(">=1;", "", 1, true);
        isFalse(A + "x1 x2>=" + A + ";", "", 1, false);
        isFalse(A + "x1 x2>=" + HALF + ";", "", 1, false);
        isFalse(A + "x1 x2>=" + B + ";", "", 1, true);
        // MOST x1 with x2 and x3: together they are more than there is ROOM for in one number.
        String most = "p 1 " + B + "*;";
        String problem = A + "x1>=" + A + ";>=1;";
        isFalse(problem, most, 3, false);
        isFalse(problem, most + "p 3 x2 + x3 +;", 4, false);
        isFalse(problem, most + "p 3 ~x1 + 2 +;", 4, true);
        isFalse(problem, most + "p 3 ~x1 + 2 + x2 +;", 4, false);
        isFalse(problem, most + "p 3 ~x1 + 2 + x2 + x3 +;", 4, false);
    }

    private static void broken() {
        Due.sentence("The LINE is BROKEN when that is below 0");
        // LINE 1 makes x1 false; the REST of LINE 2 is then 3 less its DEGREE.
        for (int degree = 2; degree <= 4; degree++) {
            Bench x = Due.loaded(3, "~x1>=1; 2x1 1x2 2x3>=" + degree + ";");
            x.begin();
            Due.due("run(1)", x.run(1), 1);
            Due.due("DEGREE " + degree + ": run(1)", x.run(1), 1);
            Due.due("DEGREE " + degree, x.count(3), degree == 4 ? 3 : 1);
            Due.due("DEGREE " + degree, Due.trail(x), degree == 4 ? "-1@0/1" : degree == 3 ? "-1@0/1 2@0/2" : "-1@0/1 3@0/2");
        }
        // A true LITERAL counts as an OPEN one does.
        for (int degree = 3; degree <= 6; degree++) {
            Bench x = Due.loaded(3, "x1>=1; 2x1 1x2 2x3>=" + degree + ";");
            x.begin();
            x.run(2);
            String due = degree == 3 ? "1@0/1 -2@1/0" : degree == 4 ? "1@0/1 3@0/2" : degree == 5 ? "1@0/1 2@0/2" : "1@0/1";
            Due.due("true, DEGREE " + degree, Due.trail(x), due);
            Due.due("true, DEGREE " + degree, x.count(3), degree == 6 ? 3 : 1);
        }
    }

    private static void forces() {
        Due.sentence("it FORCES its OPEN LITERALS whose COEFFICIENT is above it.");
        String[] due = {"-1@1/0", "3@0/1", "2@0/1", "1@0/1", "1@0/1"};
        // All together 6: the REST is 3, then 2, 1, 0; at 7 it is BROKEN.
        for (int degree = 3; degree <= 6; degree++) {
            Bench x = Due.loaded(3, "1x1 2x2 3x3>=" + degree + ";");
            x.begin();
            x.run(1);
            Due.due("DEGREE " + degree, Due.trail(x), due[degree - 3]);
        }
        // LITERALS that have values are not FORCED, whatever their COEFFICIENT.
        Bench x = Due.loaded(3, "x3>=1; ~x1>=1; 9x1 9x3 2x2>=9;");
        x.begin();
        x.run(3);
        Due.due("not OPEN", Due.trail(x), "3@0/1 -1@0/2 -2@1/0");
        // In a u just as in the search: if x3 is FORCED, one of the other two LINES is BROKEN.
        for (int degree = 3; degree <= 5; degree++) {
            Bench y = Due.loaded(4, "1x1 2x2 3x3>=" + degree + "; ~x3 x4>=1; ~x3 ~x4>=1;");
            Due.due("u, DEGREE " + degree, Due.check(y, "u >= 1;"), degree == 3 ? 0 : 1);
        }
    }

    private static void greatRests() {
        Due.sentence("The REST of a LINE: the COEFFICIENTS of its LITERALS that are not false, together, less its DEGREE");
        // LINES 1 and 2 FORCE nothing; together they say x1, and so does the LINE 3 that is made of them.
        String problem = "x1 x2>=1; x1 ~x2>=1;";
        String most = " " + A + " * " + B + " * ";
        String[] steps = {"x3" + most + "~x3 2 * + + ;", "x3" + most + "~x3 + + ;", "x3" + most + "+ ;",
            "x3" + most + "+ x4 + ;", "x3" + most + "+ x4" + most + "+ ;"};
        String[] lines = {MOST.subtract(ONE).subtract(ONE) + " x3 ", MOST.subtract(ONE) + " x3 ", MOST + " x3 ",
            MOST + " x3 1 x4 ", MOST + " x3 " + MOST + " x4 "};
        // The REST is 2 less than x1's COEFFICIENT, 1 less, as much, 1 more (that has no ROOM), twice as much.
        String[] due = {"1@0/3", "1@0/3", "-1@1/0", "-1@1/0", "-1@1/0"};
        for (int i = 0; i < steps.length; i++) {
            Bench x = bench(4, problem, "p 1 2 + 2 d" + most + steps[i]);
            Due.due("LINE 3", Due.line(x, 3), MOST + " x1 " + lines[i] + ">= " + MOST);
            x.begin();
            x.run(1);
            Due.due(lines[i], Due.trail(x), due[i]);
        }
    }

    private static void nothingIsLeft() {
        Due.sentence("for each VARIABLE at most one of its LITERALS: none of an earlier LINE's");
        Bench x = bench(4, "2x1 3~x2 x4>=1;", "p 1 ; p ~x2 ; p 1 x3 + ; p x3 ~x1 + ; p x4 ; p ~x4 1 + ; p 1 s ; p x2 s x2 +;"
            + "p ~x1 ~x3 + ~x1 w x1 + ; u ~x4 >= 0 ; u x4 >= 0 ; p x3 ;");
        String[] due = {"2 x1 3 ~x2 1 x4 >= 1", "2 x1 3 ~x2 1 x4 >= 1", "1 ~x2 >= 0", "2 x1 3 ~x2 1 x3 1 x4 >= 1", "1 ~x1 1 x3 >= 0",
            "1 x4 >= 0", "2 x1 3 ~x2 >= 0", "1 x1 1 ~x2 1 x4 >= 1", "1 x2 >= 0", "1 x1 1 ~x3 >= 0", "1 ~x4 >= 0", "1 x4 >= 0",
            "1 x3 >= 0"};
        for (int k = 1; k <= due.length; k++) {
            Due.due("LINE " + k, Due.line(x, k), due[k - 1]);
        }
        String[] problems = {"~x1 ~x2>=1;x3>=1;", "x1 x4>=1;~x3>=1;", "x2>=0;x2>=0;", "~x3>=0;~x1>=0;", "x4>=0;x1>=0;", ">=0;>=0;"};
        String[] lines = {"1 ~x1 1 ~x2 >= 1", "1 x1 1 x4 >= 1", "1 x2 >= 0", "1 ~x3 >= 0", "1 x4 >= 0", ">= 0"};
        for (int i = 0; i < 2 * problems.length; i++) {
            Due.due("load()", Due.load(x, problems[i % problems.length]), 2);
            Due.due(problems[i % problems.length], Due.line(x, 1), lines[i % problems.length]);
        }
        // LINES that were looked at before a load() are FALSE or not by their own numbers.
        Bench y = bench(3, "x1 x2 x3>=1;", "p 1 ; p 1 ; p 1 ;");
        y.begin();
        y.run(2);
        Due.due("load()", Due.load(y, "x1 x2 x3>=4;"), 1);
        Due.due("check()", Due.check(y, "p 1 ; p 1 ; c 2 ; c 3 ;"), 4);
        Due.due("FALSE ones", y.count(9), 3);
    }
}
