import java.math.BigInteger;
import java.util.Map;
import java.util.Random;

/** Terms, 3: THE SEARCH. For each sentence that names a boundary: on it, and one step to either side. */
public final class SearchEdgeTest {
    private static final BigInteger ONE = BigInteger.ONE;
    /** 2 to the 128. A, 1 less, times B, 1 more, is the greatest number there is. */
    private static final BigInteger HALF = ONE.shiftLeft(128);
    private static final BigInteger A = HALF.subtract(ONE);
    private static final BigInteger B = HALF.add(ONE);
    private static final BigInteger MOST = ONE.shiftLeft(256).subtract(ONE);

    public static void main(String[] args) {
        begins();
        theFirstLine();
        theLeastVariable();
        solved();
        choices();
        theValueThatItHadLast();
        readyAtTheLeastLevel();
        readyAfterAnotherConflict();
        levelsAboveGo();
        multiples();
        itsOwnLiteralStays();
        onceIsNotWritten();
        toTheTrailsEnd();
        numbersWithRoom();
        numbersWithoutRoom();
        numbersAtLevelNought();
        theThreeHundredthLine();
        theProofsLastByte();
        fullChangesNothing();
        behindTheEnd();
        linesOfThreeDigits();
        greatNumbersAreWritten();
        linesOfCheck();
        loads();
        Due.end("SearchEdgeTest");
    }

    private static Bench begun(int v, String problem) {
        Bench x = Due.loaded(v, problem);
        x.begin();
        return x;
    }

    private static void counts(String what, Bench x, int... due) {
        for (int i = 0; i < due.length; i++) {
            Due.due(what + ": count(" + (i + 2) + ")", x.count(i + 2), due[i]);
        }
    }

    private static String allLines(Bench x) {
        StringBuilder text = new StringBuilder();
        for (int k = 1; k <= x.count(0); k++) {
            text.append(x.origin(k)).append(": ").append(Due.line(x, k)).append('\n');
        }
        return text.toString();
    }

    private static void begins() {
        Due.sentence("begin(): no VARIABLE has a value, or had one; the TRAIL is empty, LEVEL 0; no PROOF.");
        for (Map.Entry<String, Bench> state : States.all().entrySet()) {
            Bench x = state.getValue();
            String lines = allLines(x);
            int ofProblem = x.count(1);
            Due.due(state.getKey(), x.begin(), true);
            counts(state.getKey(), x, 0, 1, 0, 0, 0, 0, 0);
            Due.due(state.getKey() + ": the LINES stay", allLines(x), lines);
            Due.due(state.getKey() + ": the PROBLEM's", x.count(1), ofProblem);
            Due.due(state.getKey() + ": proof(0)", x.proof(0), -1);
            Due.due(state.getKey() + ": trail(0, 0)", x.trail(0, 0), 0);
            for (int n = 1; n <= 3; n++) {
                Due.due(state.getKey() + ": value(" + n + ")", x.value(n), -1);
            }
        }
        Bench x = States.going();
        x.run(2);
        Due.due("x2 and x3 had the value true", Due.trail(x), "1@0/4 2@1/0 3@2/0");
        x.begin();
        x.run(4);
        Due.due("they had none", Due.trail(x), "1@0/4 -2@1/0 -3@2/0");
    }

    private static void theFirstLine() {
        Due.sentence("(1) The LINES are looked at from the first on: the first one that is BROKEN or FORCES something.");
        Bench broken = begun(2, ">=1; x1>=1;");
        Due.due("BROKEN ahead of FORCES", broken.run(500), 1);
        counts("BROKEN ahead of FORCES", broken, 12, 3, 0, 0, 0, 1, 1);
        Bench forces = begun(2, "x1>=1; >=1;");
        Due.due("FORCES ahead of BROKEN", forces.run(500), 2);
        counts("FORCES ahead of BROKEN", forces, 12, 3, 1, 0, 0, 1, 2);
        Bench last = begun(2, ">=0; x1>=0; x2>=1;");
        last.run(1);
        Due.due("the last one", Due.trail(last), "2@0/3");
        Bench again = begun(3, "x1x2>=1; x3>=1; ~x1>=1;");
        again.run(3);
        Due.due("from the first on, each time", Due.trail(again), "3@0/2 -1@0/3 2@0/1");
        Bench none = begun(2, ">=0; x1x2>=1;");
        none.run(1);
        Due.due("none of them", Due.trail(none), "-1@1/0");
    }

    private static void theLeastVariable() {
        Due.sentence("FORCES: its least VARIABLE whose LITERAL is forced gets it true");
        Bench x = begun(16, "x16 2~x5 x2 3x9>=5;");
        x.run(1);
        Due.due("the REST is 2: x9 alone is FORCED", Due.trail(x), "9@0/1");
        Bench y = begun(16, "x16 2~x5 x2 3x9>=6;");
        y.run(2);
        Due.due("the REST is 1: ~x5 and x9", Due.trail(y), "-5@0/1 9@0/1");
        Bench z = begun(16, "x16 2~x5 x2 3x9>=7;");
        z.run(5);
        Due.due("the REST is 0: all, one an ACT", Due.trail(z), "2@0/1 -5@0/1 9@0/1 16@0/1 -1@1/0");
    }

    private static void solved() {
        Due.sentence("(2) None of them: if all VARIABLES have values, it is SOLVED.");
        for (int v : new int[] {1, 2, 15, 16}) {
            Bench x = new Bench(v);
            x.begin();
            Due.due("V " + v, x.run(v - 1), v - 1);
            counts("one without value", x, 0, 1, v - 1, v - 1, v - 1, 0, v - 1);
            Due.due("V " + v, x.run(1), 1);
            counts("the last one has a value", x, 0, 1, v, v, v, 0, v);
            Due.due("V " + v, x.run(1), 1);
            counts("SOLVED", x, 0, 2, v, v, v, 0, v + 1);
            Due.due("V " + v, x.run(1), 0);
        }
        Bench y = begun(1, "x1>=1;");
        Due.due("without a CHOICE", y.run(2), 2);
        counts("without a CHOICE", y, 0, 2, 1, 0, 0, 0, 2);
        // All have values, but a LINE is BROKEN: not SOLVED.
        Bench z = begun(1, "x1>=1; ~x1>=1;");
        Due.due("BROKEN", z.run(500), 2);
        Due.due("BROKEN", z.count(3), 3);
    }

    private static void choices() {
        Due.sentence("(3) Else the LEVEL is 1 more, and the least VARIABLE without value gets the one that it had last");
        Bench x = begun(4, "x1>=1; x2x3>=1;");
        x.run(2);
        Due.due("x2 is the least", Due.trail(x), "1@0/1 -2@1/0");
        counts("a CHOICE", x, 0, 1, 2, 1, 1, 0, 2);
        x.run(2);
        Due.due("x4 is the last", Due.trail(x), "1@0/1 -2@1/0 3@1/2 -4@2/0");
        counts("two CHOICES", x, 0, 1, 4, 2, 2, 0, 4);
    }

    private static void theValueThatItHadLast() {
        Due.sentence("the one that it had last (false, if none)");
        // x3 is FORCED true, then goes: the CHOICE of it is true. x4 was false when it went, x5 had no value.
        Bench x = begun(5, "x2x3>=1; x2~x3~x4>=1; x2~x3x4>=1;");
        Due.due("run(4)", x.run(4), 4);
        Due.due("x1, x2 CHOICES", Due.trail(x), "-1@1/0 -2@2/0 3@2/1 -4@2/2");
        Due.due("run(1)", x.run(1), 1);
        Due.due("LINE 4", Due.line(x, 4), "1 x2 >= 1");
        Due.due("back to LEVEL 0", Due.trail(x), "");
        Due.due("run(5)", x.run(5), 5);
        Due.due("last values", Due.trail(x), "2@0/4 -1@1/0 3@2/0 -4@3/0 -5@4/0");
    }

    /** Of x3, x4, x5 one at most: with LINE 4 that makes a x1 b x2 >= 10, though FORCING does not find it. */
    private static Bench madeBroken(int a, int b) {
        Bench x = begun(5, "~x3~x4>=1; ~x3~x5>=1; ~x4~x5>=1; " + a + "x1 " + b + "x2 10x3 10x4 10x5>=20;");
        x.run(2);
        Due.due("TRAIL", Due.trail(x), "-1@1/0 -2@2/0");
        Due.due("a LINE", Due.check(x, "p 1 2 + 3 + 2 d 10 * 4 + ;"), 1);
        Due.due("LINE 5", Due.line(x, 5), a + " x1 " + b + " x2 >= 10");
        Due.due("run(1)", x.run(1), 1);
        Due.due("READY at once", Due.proof(x), "p 5 ;\n");
        Due.due("K", Due.line(x, 6), a + " x1 " + b + " x2 >= 10");
        return x;
    }

    private static void readyAtTheLeastLevel() {
        Due.sentence("READY: there is a LEVEL j below the present one at which K is BROKEN or FORCES something; the least such j");
        int[][] due = {{10, 10, 1}, {11, 11, 1}, {11, 10, 1}, {10, 11, 1}, {9, 10, 0}, {10, 9, 0}, {9, 9, 0}, {4, 5, 0},
            {5, 5, 0}};
        for (int[] d : due) {
            Bench x = madeBroken(d[0], d[1]);
            counts(d[0] + " x1 " + d[1] + " x2", x, 6, 1, d[2], d[2], 2, 1, 3);
            Due.due(d[0] + " x1 " + d[1] + " x2", Due.trail(x), d[2] == 1 ? "-1@1/0" : "");
        }
        // BROKEN at LEVEL 2 and at no LEVEL below: what is FORCED at LEVEL 1 makes it READY; ahead of that one R is taken.
        Bench y = begun(4, "x1x2x3>=1; x1x2~x3>=1;");
        Due.due("run(4)", y.run(4), 4);
        Due.due("PROOF", Due.proof(y), "p 2 1 s + s ;\n");
        Due.due("LINE 3", Due.line(y, 3), "1 x1 1 x2 >= 1");
        Due.due("LEVEL 1", Due.trail(y), "-1@1/0");
    }

    private static void readyAfterAnotherConflict() {
        Due.sentence("READY: at the least LEVEL j, whatever an earlier K was");
        Bench x = begun(7, "~x4~x5>=1; ~x4~x6>=1; ~x5~x6>=1; 20x1 9x2 10x4 10x5 10x6>=20; x1x2x7>=1; x1x2~x7>=1;");
        Due.due("run(4)", x.run(4), 4);
        Due.due("the earlier K", Due.line(x, 7), "1 x1 1 x2 >= 1");
        Due.due("run(2)", x.run(2), 2);
        Due.due("TRAIL", Due.trail(x), "-1@1/0 2@1/7 -3@2/0");
        Due.due("a LINE", Due.check(x, "p 1 2 + 3 + 2 d 10 * 4 + ;"), 1);
        Due.due("LINE 8", Due.line(x, 8), "20 x1 9 x2 >= 10");
        // BROKEN at LEVEL 1; at LEVEL 0 it FORCES x1.
        Due.due("run(1)", x.run(1), 1);
        Due.due("PROOF", Due.proof(x), "p 6 5 s + s ;\np 8 ;\n");
        Due.due("LEVEL 0", Due.trail(x), "");
        counts("LEVEL 0", x, 20, 1, 0, 0, 3, 2, 7);
    }

    private static void levelsAboveGo() {
        Due.sentence("values given at LEVELS above the least such j go (their LITERALS off the TRAIL), and LEVEL is j");
        // At LEVEL 0 x6, at LEVEL 1 ~x1 and x5, at 2 ~x2, at 3 ~x3, x4: LINE 4 is BROKEN, what is learned says x1 or x3.
        Bench x = begun(6, "x6>=1; x1x5>=1; x1x3x4>=1; x1x3~x4>=1;");
        Due.due("run(6)", x.run(6), 6);
        Due.due("TRAIL", Due.trail(x), "6@0/1 -1@1/0 5@1/2 -2@2/0 -3@3/0 4@3/3");
        Due.due("run(1)", x.run(1), 1);
        Due.due("LINE 5", Due.line(x, 5), "1 x1 1 x3 >= 1");
        Due.due("TRAIL", Due.trail(x), "6@0/1 -1@1/0 5@1/2");
        counts("LEVEL 1", x, 14, 1, 3, 1, 3, 1, 7);
        int[] values = {0, -1, -1, -1, 1, 1};
        for (int n = 1; n <= 6; n++) {
            Due.due("value(" + n + ")", x.value(n), values[n - 1]);
        }
        for (int what = 0; what <= 2; what++) {
            Due.due("off the TRAIL", x.trail(3, what), 0);
        }
    }

    /** In LINE 2 x2 has 3: x3 (2), ~x5 (4) and x7 (4) are no multiples, x4 (3) and x6 (6) are, x1 (5) is false. */
    private static final String MULTIPLES = "x7>=1; 5x1 3x2 2x3 3x4 4~x5 6x6 4x7>=20; ~x2~x3>=1; ";

    private static void multiples() {
        Due.sentence("all other LITERALS of R that are not false by the TRAIL ahead of l, and whose COEFFICIENT is no multiple of c, go");
        Bench x = begun(7, MULTIPLES + "x1~x2>=1;");
        Due.due("run(7)", x.run(7), 7);
        Due.due("x3 is false, but not ahead of x2", Due.trail(x),
            "7@0/1 -1@1/0 2@1/2 4@1/2 -5@1/2 6@1/2 -3@1/3");
        Due.due("run(1)", x.run(1), 1);
        Due.due("by VARIABLES from the least on", Due.proof(x), "p 4 2 x3 w x5 w x7 w 3 d s + s ;\n");
        Due.due("LINE 5", Due.line(x, 5), "3 x1 1 x4 2 x6 >= 4");
        Due.due("TRAIL", Due.trail(x), "7@0/1");
    }

    private static void itsOwnLiteralStays() {
        Due.sentence("If the opposite of l stands in K, with the COEFFICIENT a");
        // x4, which is true, stands in K: it is not its opposite, and nothing is taken for it. ~x2 has 2.
        Bench x = begun(7, MULTIPLES + "2x1 2~x2 x4>=2;");
        Due.due("run(8)", x.run(8), 8);
        Due.due("PROOF", Due.proof(x), "p 4 2 x3 w x5 w x7 w 3 d s 2 * + s ;\n");
        Due.due("LINE 5", Due.line(x, 5), "6 x1 3 x4 4 x6 >= 8");
    }

    private static void onceIsNotWritten() {
        Due.sentence("DIVIDED by c (not, where c is 1), CUT, taken TIMES a (not, where a is 1)");
        String[] steps = {"", " 2 d", " 3 d"};
        String[] times = {"", " 2 *", " 3 *"};
        for (int c = 1; c <= 3; c++) {
            for (int a = 1; a <= 3; a++) {
                // ~x1 lets LINE 1 FORCE x2, then LINE 2 is BROKEN.
                Bench x = begun(2, c + "x1 " + c + "x2>=" + c + "; " + a + "x1 " + a + "~x2>=" + a + ";");
                Due.due("run(3)", x.run(3), 3);
                Due.due("c " + c + ", a " + a, Due.proof(x), "p 2 1" + steps[c - 1] + " s" + times[a - 1] + " + s ;\n");
                Due.due("LINE 3", Due.line(x, 3), a + " x1 >= " + a);
            }
        }
    }

    private static void toTheTrailsEnd() {
        Due.sentence("As long as it is not READY, or (LEVEL 0) the TRAIL is not at its end");
        // LINE 2 is FALSE from the first on; at LEVEL 0 its x1 goes by LINE 1 all the same.
        Bench x = begun(2, "~x1>=1; x1>=2;");
        Due.due("run(500)", x.run(500), 2);
        Due.due("PROOF", Due.proof(x), "p 2 1 s + s ;\nc 3 ;\n");
        Due.due("LINE 3", Due.line(x, 3), ">= 2");
        counts("NONE", x, 20, 3, 1, 0, 0, 1, 2, 2);
        // With the TRAIL empty, or with nothing of it in K.
        Bench y = begun(2, ">=1;");
        y.run(1);
        Due.due("an empty TRAIL", Due.proof(y), "p 1 ;\nc 2 ;\n");
        Bench z = begun(2, "x1>=1; x2>=2;");
        z.run(2);
        Due.due("x1 is not in it", Due.proof(z), "p 2 ;\nc 3 ;\n");
        Due.due("NONE", z.count(3), 3);
        Due.due("the TRAIL stays", Due.trail(z), "1@0/1");
        // Above LEVEL 0 a LINE that is FALSE is READY at once; at LEVEL 0 the next ACT finds it again.
        Bench w = begun(5, "~x3~x4>=1; ~x3~x5>=1; ~x4~x5>=1; x3x4x5>=2;");
        w.run(1);
        Due.check(w, "p 1 2 + 3 + 2 d 4 + ;");
        Due.due("LINE 5", Due.line(w, 5), ">= 1");
        Due.due("run(1)", w.run(1), 1);
        counts("at LEVEL 1", w, 6, 1, 0, 0, 1, 1, 2, 2);
        Due.due("run(500)", w.run(500), 1);
        Due.due("PROOF", Due.proof(w), "p 5 ;\np 5 ;\nc 7 ;\n");
        counts("at LEVEL 0", w, 18, 3, 0, 0, 1, 2, 3, 3);
    }

    private static void numbersWithRoom() {
        Due.sentence("FULL: a number without ROOM; the greatest number has it");
        Bench x = begun(3, States.numbers(B, A));
        Due.due("run(4)", x.run(4), 4);
        Due.due("goes on", x.count(3), 1);
        Due.due("LINE 3", Due.line(x, 3), MOST + " x1 " + MOST.subtract(B) + " x3 >= " + MOST);
        Due.due("PROOF", Due.proof(x), "p 2 1 s " + B + " * + s ;\n");
        Due.due("LEVEL 0", Due.trail(x), "");
        Due.due("run(1)", x.run(1), 1);
        Due.due("it FORCES", Due.trail(x), "1@0/3");
    }

    /** After three ACTS, ~x1, x2 and x3, the next one has no ROOM. */
    private static void full(String what, int v, String problem) {
        Bench x = begun(v, problem);
        Due.due(what + ": run(3)", x.run(3), 3);
        Due.due(what, Due.trail(x), "-1@1/0 2@1/1 3@1/1");
        Seen before = Seen.now(x);
        Due.due(what + ": run(500)", x.run(500), 1);
        counts(what, x, 0, 4, 3, 1, 1, 0, 4);
        Seen.same(what, Seen.now(x), before, "count(3)", "count(8)");
    }

    private static void numbersWithoutRoom() {
        Due.sentence("FULL: a number without ROOM");
        BigInteger less = A.subtract(ONE);
        String reason = "x2 " + less + "x1 " + less + "x3>=" + A + "; ";
        full("TIMES", 3, States.numbers(HALF, HALF));
        full("TIMES", 3, States.numbers(B, HALF));
        // TIMES has ROOM: the greatest number; the SUM's COEFFICIENT of x1, or its DEGREE, is 1 more.
        full("the SUM's COEFFICIENT", 3, reason + B + "~x2 " + B.add(ONE) + "x1>=" + B + ";");
        full("the SUM's DEGREE", 4, reason + B + "~x2 " + B + "x1 2x4>=" + B.add(ONE) + ";");
        Bench x = begun(4, reason + B + "~x2 " + B + "x1 2x4>=" + B + ";");
        Due.due("a DEGREE that has it", x.run(4), 4);
        Due.due("a DEGREE that has it", x.count(3), 1);
    }

    private static void numbersAtLevelNought() {
        Due.sentence("FULL: a number without ROOM, at LEVEL 0");
        Bench x = begun(3, "~x1>=1; " + States.numbers(B, A));
        Due.due("run(500)", x.run(500), 4);
        Due.due("NONE", x.count(3), 3);
        Due.due("PROOF", Due.proof(x), "p 3 2 s " + B + " * + s 1 s " + MOST + " * + s ;\nc 4 ;\n");
        Due.due("LINE 4", Due.line(x, 4), MOST.subtract(B) + " x3 >= " + MOST);
        Due.due("FALSE", x.count(9), 1);
        Bench y = begun(3, "~x1>=1; " + States.numbers(HALF, HALF));
        y.run(3);
        Seen before = Seen.now(y);
        Due.due("run(500)", y.run(500), 1);
        counts("FULL", y, 0, 4, 3, 0, 0, 0, 4);
        Seen.same("FULL", Seen.now(y), before, "count(3)", "count(8)");
    }

    private static void theThreeHundredthLine() {
        Due.sentence("FULL: a 301st LINE");
        for (int more = 296; more <= 297; more++) {
            Bench x = Due.loaded(3, States.LEARNING);
            Due.check(x, "p 1;".repeat(more));
            x.begin();
            x.run(3);
            Seen before = Seen.now(x);
            Due.due("run(1)", x.run(1), 1);
            if (more == 296) {
                counts("the 300th", x, 22, 1, 0, 0, 1, 1, 4);
                Due.due("LINES", x.count(0), 300);
                Due.due("LINE 300", x.origin(300) + " " + Due.line(x, 300), "4 1 x1 >= 1");
            } else {
                counts("a 301st", x, 0, 4, 3, 1, 1, 0, 4);
                Seen.same("a 301st", Seen.now(x), before, "count(3)", "count(8)");
            }
        }
        // At LEVEL 0, too: with 300 LINES there is no NONE.
        for (int more = 298; more <= 299; more++) {
            Bench x = Due.loaded(1, ">=1;");
            Due.check(x, "p 1;".repeat(more));
            x.begin();
            Due.due("run(500)", x.run(500), 1);
            Due.due("LINES", x.count(0), 300);
            Due.due("FALSE ones", x.count(9), 300);
            counts("at LEVEL 0", x, more == 298 ? 14 : 0, more == 298 ? 3 : 4, 0, 0, 0, more == 298 ? 1 : 0, 1);
            Due.due("PROOF", Due.proof(x), more == 298 ? "p 1 ;\nc 300 ;\n" : "");
        }
    }

    /** Two sums of great numbers that can't be met, of 11 VARIABLES. */
    private static String hard(int seed) {
        StringBuilder text = new StringBuilder();
        Random r = new Random(seed);
        for (int i = 0; i < 2; i++) {
            BigInteger sum = BigInteger.ZERO;
            for (int n = 1; n <= 11; n++) {
                BigInteger c = new BigInteger(60, r).add(ONE);
                text.append(c).append('x').append(n).append(' ');
                sum = sum.add(c);
            }
            text.append('=').append(sum.shiftRight(1)).append(";\n");
        }
        return text.toString();
    }

    private static void run(Bench x, int acts) {
        for (int left = acts; left > 0; left -= 500) {
            Due.due("run", x.run(Math.min(500, left)), Math.min(500, left));
        }
    }

    /** The ACT by which the PROOF gets, or would get, so many bytes; those of the c that NONE has are told. */
    private static void proofOf(int seed, int bytes, int claim) {
        PlainModel model = new PlainModel(11);
        model.mostProof = 1000000;
        model.tape.append(hard(seed));
        model.load();
        model.begin();
        int acts = 0;
        int before = 0;
        while (model.state == 1 && model.proof.length() < 19999) {
            before = model.proof.length();
            acts += model.run(1);
        }
        String what = "a PROOF of " + bytes + " bytes";
        Due.due(what + ": by the model", model.proof.length(), bytes);
        Due.due(what + ": NONE", model.state == 3, claim > 0);
        Due.due(what + ": the last STEP", model.proof.substring(bytes - claim).startsWith("c") || claim == 0, true);
        Bench x = begun(11, hard(seed));
        run(x, acts - 1);
        Due.due(what + ": ahead of it", x.count(2), before);
        Due.due(what + ": goes on", x.count(3), 1);
        Seen seen = Seen.now(x);
        Due.due(what + ": run(1)", x.run(1), 1);
        Due.due(what + ": ACTS", x.count(8), acts);
        if (bytes <= 20000) {
            Due.due(what, x.count(2), bytes);
            Due.due(what + ": how it is", x.count(3), claim > 0 ? 3 : 1);
            Due.due(what + ": LINES", x.count(0), model.rows.size());
            Due.due(what + ": the last byte", x.proof(bytes - 1), 10);
            Due.due(what + ": behind it", x.proof(bytes), -1);
            Due.due(what + ": all of it", Due.proof(x), model.proof.toString());
        } else {
            Due.due(what, x.count(3), 4);
            Due.due(what + ": run(500)", x.run(500), 0);
            Seen.same(what, Seen.now(x), seen, "count(3)", "count(8)");
            x.begin();
            x.run(500);
            Due.due(what + ": a PROOF of another search", x.count(2) > 0 && x.count(7) > 0, true);
            Due.load(x, States.LEARNING);
            x.begin();
            Due.due(what + ": of another PROBLEM", x.run(4), 4);
            Due.due(what + ": of another PROBLEM", Due.proof(x), "p 3 2 s + s 1 s + s ;\n");
        }
    }

    private static void theProofsLastByte() {
        Due.sentence("FULL: a PROOF that would have more than 20,000 bytes");
        proofOf(10632, 19999, 0);
        proofOf(10155, 20000, 0);
        proofOf(10052, 20001, 0);
        // At NONE the c counts, too: in the last one the p would end with byte 20,000.
        proofOf(8915, 19999, 7);
        proofOf(6159, 20000, 7);
        proofOf(31693, 20001, 7);
        proofOf(26632, 20007, 7);
    }

    private static void fullChangesNothing() {
        Due.sentence("then K is no LINE, and nothing else happened in that ACT; what (4) had looked at is forgotten");
        Bench x = States.ended(States.withoutRoom(), 4);
        Due.due("run(500)", x.run(500), 0);
        Due.due("ACTS", x.count(8), 4);
        Due.due("a p", Due.check(x, "p 1 ;"), 1);
        Due.due("it stays FULL", x.count(3), 4);
        Due.due("run(1)", x.run(1), 0);
        x.begin();
        Due.due("the same once more", x.run(500), 4);
        counts("the same once more", x, 0, 4, 3, 1, 1, 0, 4);
        Due.due("load() ends it", Due.load(x, "x1>=1;"), 1);
        counts("none", x, 0, 0, 0, 0, 0, 0, 0);
    }

    private static void behindTheEnd() {
        Due.sentence("ENDS: SOLVED, NONE, or FULL");
        String[] names = {"SOLVED", "NONE", "FULL"};
        for (int i = 0; i < 3; i++) {
            Bench x = States.all().get(names[i]);
            Due.due(names[i], x.count(3), 2 + i);
            Bench due = x.copy();
            for (int n : new int[] {0, 1, 500}) {
                Due.due(names[i] + ": run(" + n + ")", x.run(n), 0);
            }
            Seen.same(names[i] + " stays", Seen.whole(x), Seen.whole(due));
            Due.check(x, "p x1 ~x1 + ;");
            Due.due(names[i] + ": a LINE more", x.run(1), 0);
            Due.due(names[i] + ": stays", x.count(3), 2 + i);
        }
    }

    /** Four LINES of which SUM makes x1 x2 >= 1; four more with ~x2 behind them make x1 ~x2 >= 1. */
    private static final String WEAK = "x1x2x4x5>=1; x1x2x4~x5>=1; x1x2~x4x5>=1; x1x2~x4~x5>=1; ";
    private static final String SUM = "p 1 2 + 2 d 3 4 + 2 d + 2 d ";
    private static final String SUM_OF_OPPOSITE = "p 5 6 + 2 d 7 8 + 2 d + 2 d ";

    private static void linesOfThreeDigits() {
        Due.sentence("THE PROOF: p, the number of the BROKEN LINE; for each R: its number; all with a blank ahead of each TOKEN but the first");
        String[] due = {"p 9 8 s + s ;\n", "p 10 9 s + s ;\n", "p 11 10 s + s ;\n"};
        for (int more = 7; more <= 9; more++) {
            Bench x = begun(2, ">=0;".repeat(more) + "x1x2>=1; x1~x2>=1;");
            Due.due("run(3)", x.run(3), 3);
            Due.due("PROOF", Due.proof(x), due[more - 7]);
        }
        // R and K are made behind as many LINES as are wanted, of LINES that FORCE nothing while x4 and x5 are OPEN.
        for (int first = 98; first <= 100; first++) {
            Bench x = Due.loaded(5, WEAK + WEAK.replace("x2", "~x2"));
            Due.check(x, "p x1;".repeat(first - 9) + SUM + ";" + SUM_OF_OPPOSITE + ";");
            Due.due("LINE " + first, Due.line(x, first), "1 x1 1 x2 >= 1");
            x.begin();
            x.run(3);
            Due.due("PROOF", Due.proof(x), "p " + (first + 1) + " " + first + " s + s ;\n");
        }
        Bench none = Due.loaded(2, ">=1;");
        Due.check(none, "p 1;".repeat(97));
        none.begin();
        none.run(1);
        Due.due("two digits", Due.proof(none), "p 1 ;\nc 99 ;\n");
        none.begin();
        none.run(1);
        Due.due("three digits", Due.proof(none), "p 1 ;\nc 100 ;\n");
    }

    private static void greatNumbersAreWritten() {
        Due.sentence("THE PROOF: c d, s; a * ; + s");
        for (String n : new String[] {"2", "9", "10", "11", "99", "100", "4294967295", "4294967296", "4294967297",
            "1" + "0".repeat(59), "9".repeat(60)}) {
            Bench x = begun(2, n + "x1 " + n + "x2>=" + n + "; " + n + "x1 " + n + "~x2>=" + n + ";");
            Due.due("run(3)", x.run(3), 3);
            Due.due(n, Due.proof(x), "p 2 1 " + n + " d s " + n + " * + s ;\n");
        }
        // In LINE 9 x2 has the greatest number.
        Bench x = Due.loaded(5, WEAK + WEAK.replace("x2", "~x2"));
        Due.check(x, SUM + A + " * " + B + " * ;" + SUM_OF_OPPOSITE + ";");
        Due.due("LINE 9", Due.line(x, 9), MOST + " x1 " + MOST + " x2 >= " + MOST);
        Due.due("LINE 10", Due.line(x, 10), "1 x1 1 ~x2 >= 1");
        x.begin();
        Due.due("run(3)", x.run(3), 3);
        Due.due("c", Due.proof(x), "p 10 9 " + MOST + " d s + s ;\n");
        // In LINE 10 ~x2 has 2 to the 256 less 2 to the 128, x1 what is left up to the greatest number.
        Bench y = Due.loaded(5, WEAK + WEAK.replace("x2", "~x2"));
        Due.check(y, SUM + ";" + SUM_OF_OPPOSITE + A + " * ~x2 " + A + " * " + A + " * + ;");
        String great = MOST.subtract(A).toString();
        Due.due("LINE 10", Due.line(y, 10), A + " x1 " + great + " ~x2 >= " + A);
        y.begin();
        Due.due("run(3)", y.run(3), 3);
        Due.due("a", Due.proof(y), "p 10 9 s " + great + " * + s ;\n");
        Due.due("LINE 11", Due.line(y, 11), A + " x1 >= " + A);
    }

    private static void linesOfCheck() {
        Due.sentence("LINES that check() makes while a search goes on are looked at from then on");
        Bench x = begun(3, "x1 x2>=1; x1 ~x2>=1;");
        x.begin();
        Due.due("a LINE that FORCES", Due.check(x, "p 1 2 + 2 d ; ?"), 1);
        x.run(1);
        Due.due("though a FAULT came behind it", Due.trail(x), "1@0/3");
        Bench y = begun(3, "x1 x2>=1; x1 ~x2>=1;");
        y.run(1);
        Due.check(y, "p 1 2 + 2 d ;");
        y.run(1);
        Due.due("LINES ahead of it are looked at first", Due.trail(y), "-1@1/0 2@1/1");
        Due.due("LINES learned", y.count(7), 0);
        Due.due("of a p", y.origin(3), 2);
        y.run(1);
        Due.due("learned", y.origin(4), 4);
        Due.check(y, "u x1 >= 1 ;");
        Due.due("of a u, behind it", y.origin(5), 3);
        Due.due("the PROBLEM's", y.count(1), 2);
        Due.due("LINES learned", y.count(7), 1);
        Due.due("the PROOF is of what was learned", Due.proof(y), "p 2 1 s + s ;\n");
    }

    private static void loads() {
        Due.sentence("load() that has no FAULT ends it (no PROOF then)");
        for (String text : new String[] {"", "x2>=1;"}) {
            for (Map.Entry<String, Bench> state : States.all().entrySet()) {
                Bench x = state.getValue();
                Due.due(state.getKey() + ": load()", Due.load(x, text), text.isEmpty() ? 0 : 1);
                Bench due = new Bench(3);
                Due.load(due, text);
                Seen.same(state.getKey() + ": load() of " + text, Seen.whole(x), Seen.whole(due));
                String steps = "p x1 x2 + ~x3 + ; p ~x1 ; u x1 ~x2 >= 0 ; p x3 2 * ; p 1 ; p 2 x1 + ;";
                Due.due(state.getKey() + ": STEPS", Due.check(x, steps), Due.check(due, steps));
                x.begin();
                due.begin();
                Seen.same(state.getKey() + ": begin() behind it", Seen.whole(x), Seen.whole(due));
            }
        }
    }
}
