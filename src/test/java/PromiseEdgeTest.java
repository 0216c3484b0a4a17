import java.util.ArrayList;
import java.util.List;
import java.util.Map;

/** Promises 1 to 16 and the 512 calls: the edges of each call's arguments, and that a refused call changes nothing. */
public final class PromiseEdgeTest {
    private static final int LEAST = Integer.MIN_VALUE;
    private static final int GREATEST = Integer.MAX_VALUE;
    private static final int BLANKS = 0x20202020;
    private static final int ODD = 0x3f3f3f3f;

    public static void main(String[] args) {
        newObjects();
        variablesOfNewObjects();
        feedUpToFourThousand();
        feedTheHighestFirst();
        backToNothing();
        loadAnswers();
        checkAnswers();
        faultAnswers();
        literals();
        pieces();
        holding();
        origins();
        begin();
        runs();
        longRuns();
        values();
        trails();
        proofs();
        counts();
        questionsChangeNothing();
        refusedCallsChangeNothing();
        refusedFeedChangesNothing();
        calls();
        laterCalls();
        Due.end("PromiseEdgeTest");
    }

    private static void newObjects() {
        Due.sentence("Promise 1: VARIABLES 1 .. v; no LINES, no search.");
        for (int v : new int[] {LEAST, -1, 0, 1, 2, 15, 16, 17, GREATEST}) {
            Bench x = new Bench(v);
            for (int what = 0; what <= 10; what++) {
                Due.due("v " + v + ": count(" + what + ")", x.count(what), 0);
            }
            Due.fault("v " + v, x, 0, -1);
            Due.due("v " + v + ": run(0)", x.run(0), -1);
            Due.due("v " + v + ": run(1)", x.run(1), -1);
            Due.due("v " + v + ": origin(1)", x.origin(1), 0);
            Due.due("v " + v + ": holds(1, 0)", x.holds(1, 0), false);
            Due.due("v " + v + ": literal(1, 1)", x.literal(1, 1), -1);
            Due.due("v " + v + ": piece(1, 0, 0)", x.piece(1, 0, 0), 0);
            Due.due("v " + v + ": value(1)", x.value(1), -1);
            Due.due("v " + v + ": trail(0, 0)", x.trail(0, 0), 0);
            Due.due("v " + v + ": proof(0)", x.proof(0), -1);
            Due.due("v " + v + ": back(0)", x.back(0), 0);
            Due.due("v " + v + ": back(1)", x.back(1), -1);
            Due.due("v " + v + ": load()", x.load(), 0);
            Due.due("v " + v + ": check()", x.check(), 0);
        }
    }

    private static void variablesOfNewObjects() {
        Due.sentence("Promise 1: v 1 .. 16, else the nearest of these");
        int[] given = {LEAST, -17, -1, 0, 1, 2, 3, 15, 16, 17, 18, 32, 33, GREATEST};
        int[] due = {1, 1, 1, 1, 1, 2, 3, 15, 16, 16, 16, 16, 16, 16};
        for (int i = 0; i < given.length; i++) {
            Bench x = new Bench(given[i]);
            String what = "v " + given[i];
            Due.due(what + ": the last VARIABLE", Due.load(x, "x" + due[i] + ">=1;"), 1);
            Due.due(what + ": literal", x.literal(1, due[i]), 1);
            Due.due(what + ": one more", x.literal(1, due[i] + 1), -1);
            Due.due(what + ": load() of one more", Due.load(x, "x" + (due[i] + 1) + ">=1;"), -1);
            Due.fault(what, x, 2, 0);
            x.begin();
            Due.due(what + ": a value each", x.run(500), due[i] + 1);
            Due.due(what + ": the last one's", x.value(due[i]), 1);
            Due.due(what + ": one more", x.value(due[i] + 1), -1);
        }
    }

    private static int blanks(Bench x) {
        return x.feed(BLANKS, BLANKS, BLANKS, BLANKS, BLANKS);
    }

    /** Bytes that would be a FAULT if they came. */
    private static int odd(Bench x) {
        return x.feed(ODD, ODD, ODD, ODD, ODD);
    }

    private static void feedUpToFourThousand() {
        Due.sentence("Promise 2: how many it has. NONE, and nothing comes, if it would have more than 4,000.");
        int[] gone = {0, 1, 19, 20, 21, 40};
        for (int n : gone) {
            Bench x = new Bench(2);
            for (int i = 1; i <= 199; i++) {
                Due.due("feed " + i, blanks(x), 20 * i);
            }
            Due.write(x, "x1>=1;x2>=1;x1x2>=1;");
            Due.due("4,000", x.count(10), 4000);
            Due.due("back(" + n + ")", x.back(n), 4000 - n);
            boolean room = 4000 - n + 20 <= 4000;
            Due.due("feed at " + (4000 - n), blanks(x), room ? 4020 - n : -1);
            Due.due("count(10)", x.count(10), room ? 4020 - n : 4000 - n);
            int now = x.count(10);
            Due.due("odd ones at " + now, odd(x), now > 3980 ? -1 : now + 20);
        }
        Bench y = new Bench(2);
        for (int i = 0; i < 200; i++) {
            blanks(y);
        }
        Due.due("odd ones at 4,000", odd(y), -1);
        Due.due("once more", odd(y), -1);
        Due.due("nothing came", y.load(), 0);
        Due.due("the tape is empty", odd(y), 20);
        // At 3,981 bytes, too, nothing of the twenty comes: with one of them there would be a FAULT.
        Bench z = new Bench(2);
        for (int i = 0; i < 200; i++) {
            blanks(z);
        }
        z.back(19);
        Due.due("odd ones at 3,981", odd(z), -1);
        Due.due("nothing came", z.count(10), 3981);
        Due.due("nothing came", z.load(), 0);
        Due.due("no FAULT", z.fault(0), 0);
    }

    private static void feedTheHighestFirst() {
        Due.sentence("Promise 2: Twenty bytes, the highest of a first, come behind the tape");
        // Each of the twenty bytes as the only one that can't stand there: the FAULT tells its place.
        for (int at = 0; at < 20; at++) {
            for (int b : new int[] {1, 0x7f, 0x80, 0xff}) {
                int[] words = {BLANKS, BLANKS, BLANKS, BLANKS, BLANKS};
                int shift = 24 - at % 4 * 8;
                words[at / 4] = words[at / 4] & ~(255 << shift) | b << shift;
                Bench x = new Bench(2);
                blanks(x);
                Due.due("feed", x.feed(words[0], words[1], words[2], words[3], words[4]), 40);
                Due.due("load()", x.load(), -1);
                Due.fault("byte " + b + " at " + at, x, 1, 20 + at);
            }
        }
        Bench x = new Bench(12);
        Due.due("feed", x.feed(0x31327831, 0x30202b39, 0x7e783131, 0x3e3d3334, 0x3b783e00), 20);
        Due.due("load()", x.load(), -1);
        Due.fault("x alone", x, 1, 17);
        x.feed(0x31327831, 0x30202b39, 0x7e783131, 0x3e3d3334, 0x3b202020);
        Due.due("load()", x.load(), 1);
        Due.due("LINE 1", Due.line(x, 1), "12 x10 9 ~x11 >= 34");
    }

    private static void backToNothing() {
        Due.sentence("Promise 3: The last n bytes of the tape go: how many it has. NONE, and nothing goes, if it has not so many, or n is below 0.");
        Bench x = new Bench(2);
        for (int n : new int[] {LEAST, -1, 1, 2, 20, GREATEST}) {
            Due.due("an empty tape: back(" + n + ")", x.back(n), -1);
        }
        Due.due("an empty tape: back(0)", x.back(0), 0);
        Due.write(x, "x1>=1;x2>=1;x1x2>=1;");
        for (int n : new int[] {LEAST, -20, -1, 21, 22, GREATEST}) {
            Due.due("20 bytes: back(" + n + ")", x.back(n), -1);
            Due.due("20 bytes", x.count(10), 20);
        }
        Due.due("back(0)", x.back(0), 20);
        Due.due("back(1)", x.back(1), 19);
        Due.due("back(7)", x.back(7), 12);
        Due.due("back(13)", x.back(13), -1);
        Due.due("the last ones went", x.copy().load(), 2);
        Due.write(x, "x1>=2;");
        Due.due("others come behind", x.count(10), 18);
        Due.due("load()", x.load(), 3);
        Due.due("LINE 2", Due.line(x, 2), "1 x2 >= 1");
        Due.due("LINE 3", Due.line(x, 3), "1 x1 >= 2");
        odd(x);
        Due.due("all of them", x.back(20), 0);
        Due.due("one more", x.back(1), -1);
        Due.due("nothing is left", x.load(), 0);
        for (int i = 0; i < 200; i++) {
            blanks(x);
        }
        Due.due("4,001 of 4,000", x.back(4001), -1);
        Due.due("4,000 of 4,000", x.back(4000), 0);
        Due.due("a tape to fill again", blanks(x), 20);
    }

    private static void loadAnswers() {
        Due.sentence("Promise 4: The tape, which is empty then, is the PROBLEM: how many LINES (the only ones then; no search). NONE: it has a FAULT.");
        for (Map.Entry<String, Bench> state : States.all().entrySet()) {
            Bench x = state.getValue();
            int lines = x.count(0);
            int how = x.count(3);
            Due.due(state.getKey() + ": a FAULT", Due.load(x, "x1>=1;x2>=1;?"), -1);
            Due.due(state.getKey() + ": the tape", x.count(10), 0);
            Due.due(state.getKey() + ": the LINES stay", x.count(0), lines);
            Due.due(state.getKey() + ": the search stays", x.count(3), how);
            Due.due(state.getKey() + ": none", x.copy().load(), 0);
            Due.due(state.getKey() + ": three", Due.load(x, "x1=1;x2>=1;"), 3);
            Due.due(state.getKey() + ": the tape", x.count(10), 0);
            Due.due(state.getKey() + ": the only ones", x.count(0), 3);
            Due.due(state.getKey() + ": the PROBLEM's", x.count(1), 3);
            Due.due(state.getKey() + ": no other", x.origin(4), 0);
            Due.due(state.getKey() + ": no search", x.count(3), 0);
            Due.due(state.getKey() + ": run(1)", x.run(1), -1);
            Due.due(state.getKey() + ": once more: the tape is empty", x.load(), 0);
        }
    }

    private static void checkAnswers() {
        Due.sentence("Promise 5: The tape, which is empty then, are STEPS: how many were done.");
        for (Map.Entry<String, Bench> state : States.all().entrySet()) {
            Bench x = state.getValue();
            int lines = x.count(0);
            Due.due(state.getKey() + ": none", x.check(), 0);
            Due.due(state.getKey() + ": one", Due.check(x, "p x1;"), 1);
            Due.due(state.getKey() + ": the tape", x.count(10), 0);
            Due.due(state.getKey() + ": two and a FAULT", Due.check(x, "p x1;u>=0;p x1"), 2);
            Due.due(state.getKey() + ": the tape", x.count(10), 0);
            Due.due(state.getKey() + ": none and a FAULT", Due.check(x, "?p x1;"), 0);
            Due.due(state.getKey() + ": the tape", x.count(10), 0);
            Due.due(state.getKey() + ": LINES", x.count(0), lines + 3);
            Due.due(state.getKey() + ": the tape is empty", x.check(), 0);
        }
    }

    private static void faultAnswers() {
        Due.sentence("Promise 6: The FAULT of the latest load() or check() (what 0; 0 without one), its place (1; NONE without one). NONE for another what, and its place ahead of any.");
        Bench x = new Bench(2);
        Due.fault("ahead of any", x, 0, -1);
        oddFaults(x);
        Due.check(x, "?");
        Due.fault("at place 0", x, 1, 0);
        oddFaults(x);
        x.load();
        Due.fault("a load() without one", x, 0, -1);
        Due.load(x, "x1>=1; x3>=1;");
        Due.fault("a load() with one", x, 2, 7);
        oddFaults(x);
        x.check();
        Due.fault("a check() without one", x, 0, -1);
        Due.check(x, "p x1 0 d ;");
        Due.fault("a check() with one", x, 3, 5);
        // Other calls leave it.
        odd(x);
        x.back(20);
        x.begin();
        x.run(500);
        x.run(501);
        Due.fault("the latest", x, 3, 5);
        Due.check(x, "p x1 ; p s ;");
        Due.fault("STEPS were done ahead of it", x, 4, 9);
    }

    private static void oddFaults(Bench x) {
        for (int what : new int[] {LEAST, -1, 2, 3, GREATEST}) {
            Due.due("fault(" + what + ")", x.fault(what), -1);
        }
    }

    /** LINES 1 to 3, of V 3; in LINE 1 x1 and ~x3, in LINE 3 x3 alone. */
    private static Bench three() {
        return Due.loaded(3, "2x1 3~x3>=4; x2>=0; 4294967297x3>=18446744073709551616;");
    }

    private static void literals() {
        Due.sentence("Promise 7: In LINE k (from 1 on) of VARIABLE v: 1 for xv, 0 for none, NONE for ~xv, for others too.");
        Bench x = three();
        int[][] due = {{1, 0, -1}, {0, 1, 0}, {0, 0, 1}};
        for (int k : new int[] {LEAST, -1, 0, 1, 2, 3, 4, 5, 300, 301, GREATEST}) {
            for (int n : new int[] {LEAST, -1, 0, 1, 2, 3, 4, 16, 17, 32, 33, 34, 35, GREATEST}) {
                boolean there = k >= 1 && k <= 3 && n >= 1 && n <= 3;
                Due.due("literal(" + k + ", " + n + ")", x.literal(k, n), there ? due[k - 1][n - 1] : -1);
            }
        }
    }

    private static void pieces() {
        Due.sentence("Promise 8: Of LINE k the 32 bits 32 i .. 32 i + 31 of VARIABLE v's COEFFICIENT (v 0: of the DEGREE), i 0 .. 7; 0 for others.");
        Bench x = three();
        for (int k : new int[] {LEAST, -1, 0, 1, 2, 3, 4, 300, 301, GREATEST}) {
            for (int n : new int[] {LEAST, -1, 0, 1, 2, 3, 4, 16, 17, 33, GREATEST}) {
                for (int i : new int[] {LEAST, -1, 0, 1, 2, 7, 8, 32, GREATEST}) {
                    int due = k == 1 && i == 0 ? (n == 0 ? 4 : n == 1 ? 2 : n == 3 ? 3 : 0) : 0;
                    due = k == 2 && i == 0 && n == 2 ? 1 : due;
                    due = k == 3 && n == 3 && (i == 0 || i == 1) || k == 3 && n == 0 && i == 2 ? 1 : due;
                    Due.due("piece(" + k + ", " + n + ", " + i + ")", x.piece(k, n, i), due);
                }
            }
        }
        // The greatest number: all of its 256 bits are 1. Then each piece's lowest and highest bit alone.
        Bench y = Due.loaded(1, "x1>=1;");
        Due.check(y, "p 1 340282366920938463463374607431768211455 * 340282366920938463463374607431768211457 * ;");
        for (int i = 0; i < 8; i++) {
            Due.due("piece(2, 1, " + i + ")", y.piece(2, 1, i), -1);
            Due.due("piece(2, 0, " + i + ")", y.piece(2, 0, i), -1);
        }
        Due.due("piece(2, 1, -1)", y.piece(2, 1, -1), 0);
        Due.due("piece(2, 1, 8)", y.piece(2, 1, 8), 0);
        for (int bit : new int[] {0, 31, 32, 63, 64, 191, 192, 223, 224, 255}) {
            Bench z = Due.loaded(1, "x1>=1;");
            Due.check(z, "p 1 " + "2 * ".repeat(bit) + ";");
            for (int i = -1; i <= 8; i++) {
                Due.due("bit " + bit + ", piece " + i, z.piece(2, 1, i), i == bit / 32 ? 1 << bit % 32 : 0);
            }
        }
    }

    private static void holding() {
        Due.sentence("Promise 9: Whether LINE k holds when just the VARIABLES N are true whose bit N - 1 is 1 in mask; false for others.");
        // 2x1 3~x3 >= 4 by the bits of x1 and x3: 3, 5, 0, 2 of 4.
        Bench x = three();
        boolean[] due = {false, true, false, true, false, false, false, false};
        for (int mask = 0; mask < 8; mask++) {
            for (int more : new int[] {0, 8, 0xfff8, 0x10000, LEAST, -8}) {
                Due.due("holds(1, " + (mask | more) + ")", x.holds(1, mask | more), due[mask]);
                Due.due("holds(2, " + (mask | more) + ")", x.holds(2, mask | more), true);
                for (int k : new int[] {LEAST, -1, 0, 4, 5, 300, 301, GREATEST}) {
                    Due.due("holds(" + k + ", " + (mask | more) + ")", x.holds(k, mask | more), false);
                }
            }
        }
        Bench y = Due.loaded(16, "x16>=1; ~x16>=1; x1>=1;");
        for (int mask : new int[] {0x7fff, 0x8000, 0xffff, 0x10000, 0x7fff7fff, LEAST, -1, 0, 1}) {
            Due.due("the last: holds(1, " + mask + ")", y.holds(1, mask), (mask & 0x8000) != 0);
            Due.due("its opposite: holds(2, " + mask + ")", y.holds(2, mask), (mask & 0x8000) == 0);
            Due.due("the first: holds(3, " + mask + ")", y.holds(3, mask), (mask & 1) != 0);
        }
    }

    private static void origins() {
        Due.sentence("Promise 10: LINE k: 1 of the PROBLEM, 2 of a p, 3 of a u, 4 learned; 0 for others.");
        Bench x = States.going();
        Due.check(x, "p 1 ; u x1 >= 1 ;");
        int[] due = {1, 1, 1, 4, 2, 3};
        for (int k : new int[] {LEAST, -1, 0, 1, 2, 3, 4, 5, 6, 7, 8, 300, 301, GREATEST}) {
            Due.due("origin(" + k + ")", x.origin(k), k >= 1 && k <= 6 ? due[k - 1] : 0);
        }
        Due.load(x, "x1>=1;x1=1;");
        for (int k = 0; k <= 7; k++) {
            Due.due("behind a load(): origin(" + k + ")", x.origin(k), k >= 1 && k <= 3 ? 1 : 0);
        }
        Bench y = Due.loaded(2, "x1>=1;");
        Due.check(y, "p 1;".repeat(299));
        for (int k = 0; k <= 302; k++) {
            Due.due("of 300: origin(" + k + ")", y.origin(k), k < 1 || k > 300 ? 0 : k == 1 ? 1 : 2);
        }
    }

    private static void begin() {
        Due.sentence("Promise 11: A search begins (there may be no LINES): true.");
        for (Map.Entry<String, Bench> state : States.all().entrySet()) {
            Due.due(state.getKey(), state.getValue().begin(), true);
            Due.due(state.getKey(), state.getValue().count(3), 1);
            Due.due(state.getKey() + ": twice", state.getValue().begin(), true);
            Due.due(state.getKey() + ": twice", state.getValue().count(3), 1);
        }
    }

    private static void runs() {
        Due.sentence("Promise 12: ACTS, n at most, until it ENDS: how many (that by which it ENDS, too). NONE without a search, or if n is not 0 .. 500; 0 when it has ENDED.");
        Bench x = new Bench(16);
        for (int n : new int[] {LEAST, -1, 0, 1, 500, 501, GREATEST}) {
            Due.due("without a search: run(" + n + ")", x.run(n), -1);
        }
        x.begin();
        for (int n : new int[] {LEAST, -500, -1, 501, 502, GREATEST}) {
            Due.due("run(" + n + ")", x.run(n), -1);
            Due.due("no ACTS", x.count(8), 0);
        }
        Due.due("run(0)", x.run(0), 0);
        Due.due("no ACTS", x.count(8), 0);
        // 16 CHOICES, and the ACT by which it ENDS.
        for (int n : new int[] {16, 17, 18, 499, 500}) {
            Bench y = x.copy();
            Due.due("run(" + n + ")", y.run(n), Math.min(17, n));
            Due.due("ACTS", y.count(8), Math.min(17, n));
            Due.due("how it is", y.count(3), n < 17 ? 1 : 2);
            Due.due("the rest", y.run(500), n < 17 ? 1 : 0);
        }
        x.run(500);
        for (int n : new int[] {0, 1, 500}) {
            Due.due("ENDED: run(" + n + ")", x.run(n), 0);
        }
        for (int n : new int[] {LEAST, -1, 501, GREATEST}) {
            Due.due("ENDED: run(" + n + ")", x.run(n), -1);
        }
        Due.due("ACTS", x.count(8), 17);
    }

    /** Sums that can't be met, with parity against them: the search takes more than 500 ACTS. */
    private static Bench longSearch() {
        StringBuilder text = new StringBuilder();
        java.util.Random r = new java.util.Random(3);
        for (int n = 1; n <= 14; n++) {
            text.append(2 * (1000 + r.nextInt(9000))).append('x').append(n).append(' ');
        }
        Bench x = Due.loaded(14, text + "=70001;");
        x.begin();
        return x;
    }

    private static void longRuns() {
        Due.sentence("Promise 12: ACTS, n at most");
        for (int n : new int[] {1, 499, 500}) {
            Bench x = longSearch();
            Due.due("run(" + n + ")", x.run(n), n);
            Due.due("goes on", x.count(3), 1);
            Due.due("ACTS", x.count(8), n);
            Due.due("more", x.run(1), 1);
            Due.due("ACTS", x.count(8), n + 1);
        }
        Bench once = longSearch();
        once.run(500);
        Bench often = longSearch();
        for (int n : new int[] {0, 1, 7, 0, 192, 300}) {
            Due.due("run(" + n + ")", often.run(n), n);
        }
        Seen.same("500 ACTS, once and in pieces", Seen.now(often), Seen.now(once));
    }

    private static void values() {
        Due.sentence("Promise 13: VARIABLE v's value: 1, 0, NONE (also without a search, or such a one).");
        Bench x = Due.loaded(4, "x2>=1; ~x3>=1;");
        int[] odd = {LEAST, -1, 0, 5, 16, 17, 32, 33, 34, 35, GREATEST};
        for (int n : new int[] {1, 2, 3, 4}) {
            Due.due("without a search: value(" + n + ")", x.value(n), -1);
        }
        x.begin();
        x.run(2);
        int[] due = {-1, 1, 0, -1};
        for (int n = 1; n <= 4; n++) {
            Due.due("value(" + n + ")", x.value(n), due[n - 1]);
        }
        for (int n : odd) {
            Due.due("value(" + n + ")", x.value(n), -1);
        }
        x.run(500);
        int[] solved = {0, 1, 0, 0};
        for (int n = 1; n <= 4; n++) {
            Due.due("SOLVED: value(" + n + ")", x.value(n), solved[n - 1]);
        }
        for (int n : odd) {
            Due.due("SOLVED: value(" + n + ")", x.value(n), -1);
        }
        Bench y = Due.loaded(16, "x16>=1; x1>=1;");
        y.begin();
        y.run(2);
        Due.due("the first", y.value(1), 1);
        Due.due("the last", y.value(16), 1);
        Due.due("behind the last", y.value(17), -1);
        Due.due("a whole turn of 32 behind the first", y.value(33), -1);
        Due.due("a whole turn of 32 ahead of the last", y.value(-16), -1);
        y.load();
        Due.due("the search is over", y.value(1), -1);
    }

    private static void trails() {
        Due.sentence("Promise 14: Of LITERAL i of the TRAIL what 0: N for xN, -N for ~xN; 1: its LEVEL; 2: its LINE, 0 of a CHOICE. 0 for others.");
        Bench x = Due.loaded(3, "~x3>=1; x1x2>=1;");
        x.begin();
        Due.due("an empty TRAIL", x.trail(0, 0), 0);
        x.run(2);
        int[][] two = {{-3, 0, 1}, {-1, 1, 0}};
        trail(x, two);
        x.run(1);
        int[][] three = {{-3, 0, 1}, {-1, 1, 0}, {2, 1, 2}};
        trail(x, three);
        x.run(500);
        trail(x, three);
        Bench y = new Bench(16);
        y.begin();
        y.run(17);
        Due.due("the last of 16", y.trail(15, 0), -16);
        Due.due("its LEVEL", y.trail(15, 1), 16);
        Due.due("behind it", y.trail(16, 0), 0);
        Due.due("behind it", y.trail(16, 1), 0);
        y.load();
        Due.due("the search is over", y.trail(0, 0), 0);
    }

    private static void trail(Bench x, int[][] due) {
        for (int i : new int[] {LEAST, -1, 0, 1, 2, 3, 4, 15, 16, GREATEST}) {
            for (int what : new int[] {LEAST, -1, 0, 1, 2, 3, 4, GREATEST}) {
                boolean there = i >= 0 && i < due.length && what >= 0 && what <= 2;
                Due.due("trail(" + i + ", " + what + ")", x.trail(i, what), there ? due[i][what] : 0);
            }
        }
    }

    private static void proofs() {
        Due.sentence("Promise 15: Byte i of the PROOF; NONE if there is none such.");
        Bench x = States.all().get("NONE");
        String due = "p 3 2 s + s 1 s + s ;\nc 4 ;\n";
        for (int i = -2; i <= due.length() + 2; i++) {
            Due.due("proof(" + i + ")", x.proof(i), i >= 0 && i < due.length() ? due.charAt(i) : -1);
        }
        for (int i : new int[] {LEAST, GREATEST, 159, 160, 19999, 20000}) {
            Due.due("proof(" + i + ")", x.proof(i), -1);
        }
        x.begin();
        Due.due("a search that begins has none", x.proof(0), -1);
        Due.due("no search has none", States.lines().proof(0), -1);
    }

    private static void counts() {
        Due.sentence("Promise 16: 0 LINES .. 10 bytes of the tape. NONE for others.");
        Bench x = States.going();
        Due.check(x, "p 1 ; p 1 ; ");
        Due.write(x, "12345");
        int[] due = {6, 3, 22, 1, 2, 1, 2, 1, 6, 0, 5};
        for (int what : new int[] {LEAST, -2, -1, 0, 1, 2, 3, 4, 5, 6, 7, 8, 9, 10, 11, 12, GREATEST}) {
            Due.due("count(" + what + ")", x.count(what), what >= 0 && what <= 10 ? due[what] : -1);
        }
    }

    /** Questions, with arguments at the edges of what there is and beyond them. */
    private static List<int[]> questions() {
        int[] edges = {LEAST, -1, 0, 1, 4, 17, 500, GREATEST};
        List<int[]> all = new ArrayList<>();
        for (int which = 0; which <= Bench.COUNT; which++) {
            for (int i = 0; i < edges.length && Bench.isQuestion(which); i++) {
                all.add(new int[] {which, edges[i], edges[(i + 1) % edges.length], 0});
                all.add(new int[] {which, 1, edges[i], edges[(i + 3) % edges.length]});
            }
        }
        return all;
    }

    private static void questionsChangeNothing() {
        Due.sentence("Nothing is promised beyond the answers and state changes described: questions change nothing");
        for (Map.Entry<String, Bench> state : States.all().entrySet()) {
            Bench due = Due.write(state.getValue(), "p x1 ; x1>=1;");
            Bench x = due.copy().keepQuestions(true);
            for (int[] question : questions()) {
                x.call(question);
            }
            Seen.same(state.getKey(), Seen.whole(x.keepQuestions(false)), Seen.whole(due));
        }
    }

    private static void refusedCallsChangeNothing() {
        Due.sentence("a refused call changes nothing");
        for (Map.Entry<String, Bench> state : States.all().entrySet()) {
            for (String tape : new String[] {"x1x2>=1;", "p x1 ; p x1 x2 ;"}) {
                Bench due = Due.write(state.getValue().copy(), tape);
                Bench x = due.copy();
                for (int n : new int[] {LEAST, -1, tape.length() + 1, 4000, GREATEST}) {
                    Due.due(state.getKey() + ": back(" + n + ")", x.back(n), -1);
                }
                for (int n : new int[] {LEAST, -1, 501, GREATEST}) {
                    Due.due(state.getKey() + ": run(" + n + ")", x.run(n), -1);
                }
                if (x.count(3) == 0) {
                    Due.due(state.getKey() + ": run(1)", x.run(1), -1);
                } else {
                    Due.due(state.getKey() + ": run(0)", x.run(0), 0);
                }
                Seen.same(state.getKey(), Seen.whole(x), Seen.whole(due));
            }
        }
    }

    private static void refusedFeedChangesNothing() {
        Due.sentence("Promise 2: NONE, and nothing comes");
        for (Map.Entry<String, Bench> state : States.all().entrySet()) {
            for (int less : new int[] {0, 19}) {
                Bench due = state.getValue().copy();
                Due.write(due, "x1>=1;#" + " ".repeat(3993 - less));
                Due.due(state.getKey() + ": the tape", due.count(10), 4000 - less);
                Bench x = due.copy();
                Due.due(state.getKey() + ": feed", x.feed(0x0a0a0a0a, ODD, ODD, ODD, ODD), -1);
                Due.due(state.getKey() + ": feed", x.feed(0, 0, 0, 0, 0), -1);
                Seen.same(state.getKey(), Seen.whole(x), Seen.whole(due));
            }
        }
    }

    /** 511 calls of all kinds, some of them refused. */
    private static List<int[]> manyCalls() {
        List<int[]> calls = new ArrayList<>();
        String problem = States.LEARNING + " ".repeat(4000 - States.LEARNING.length());
        for (int i = 0; i < 4000; i += 20) {
            int[] w = Due.words(problem, i);
            calls.add(new int[] {Bench.FEED, w[0], w[1], w[2], w[3], w[4]});
        }
        calls.add(new int[] {Bench.LOAD});
        String steps = "p 1 2 + ; u x1 x2 >= 1 ;" + "p x1 ; ".repeat(280);
        for (int i = 0; i < steps.length(); i += 20) {
            int[] w = Due.words(steps, i);
            calls.add(new int[] {Bench.FEED, w[0], w[1], w[2], w[3], w[4]});
        }
        calls.add(new int[] {Bench.CHECK});
        calls.add(new int[] {Bench.BEGIN});
        List<int[]> questions = questions();
        for (int i = 0; calls.size() < 505; i++) {
            calls.add(i % 9 == 0 ? new int[] {Bench.RUN, i % 2} : questions.get(i * 7 % questions.size()));
        }
        int[] w = Due.words("u x1 x2 x3 >= 1 ; ? ", 0);
        calls.add(new int[] {Bench.BACK, 1});
        calls.add(new int[] {Bench.FEED, w[0], w[1], w[2], w[3], w[4]});
        calls.add(new int[] {Bench.RUN, 501});
        calls.add(new int[] {Bench.RUN, 3});
        calls.add(new int[] {Bench.COUNT, 8});
        calls.add(new int[] {Bench.PROOF, 0});
        return calls;
    }

    private static final int[][] LAST = {{Bench.FEED, 1, 2, 3, 4, 5}, {Bench.BACK, 2}, {Bench.LOAD}, {Bench.CHECK},
        {Bench.FAULT, 1}, {Bench.LITERAL, 3, 3}, {Bench.PIECE, 4, 1, 0}, {Bench.HOLDS, 1, 1}, {Bench.ORIGIN, 5}, {Bench.BEGIN},
        {Bench.RUN, 500}, {Bench.VALUE, 1}, {Bench.TRAIL, 0, 0}, {Bench.PROOF, 1}, {Bench.COUNT, 0}};

    private static void calls() {
        Due.sentence("An object is used for at most 512 calls after it has been made");
        for (int[] last : LAST) {
            PlaneBench x = new PlaneBench(3);
            PlainModel model = new PlainModel(3);
            List<int[]> calls = manyCalls();
            calls.add(last);
            Due.due("calls", calls.size(), 512);
            for (int i = 0; i < calls.size(); i++) {
                Due.due("call " + (i + 1), Bench.answer(x, calls.get(i)), model.answer(calls.get(i)));
            }
        }
    }

    private static void laterCalls() {
        Due.sentence("what later calls answer is free: but they answer (LANGUAGE.md, rule 7)");
        PlaneBench x = new PlaneBench(3);
        int answers = 0;
        for (int round = 0; round < 4; round++) {
            for (int[] call : manyCalls()) {
                Bench.answer(x, call);
                answers++;
            }
            for (int[] call : LAST) {
                Bench.answer(x, call);
                answers++;
            }
        }
        Due.due("calls that were answered", answers, 4 * 526);
    }
}
