import java.util.ArrayList;
import java.util.List;

/**
 * A PlaneBench that a test may ask as often as it likes. The document promises 512 calls of an object: where one has had
 * them, a new object takes its place, with the calls that change something made once more.
 */
final class Bench {
    static final int MOST_CALLS = 512;

    static final int FEED = 0;
    static final int BACK = 1;
    static final int LOAD = 2;
    static final int CHECK = 3;
    static final int FAULT = 4;
    static final int LITERAL = 5;
    static final int PIECE = 6;
    static final int HOLDS = 7;
    static final int ORIGIN = 8;
    static final int BEGIN = 9;
    static final int RUN = 10;
    static final int VALUE = 11;
    static final int TRAIL = 12;
    static final int PROOF = 13;
    static final int COUNT = 14;

    private final int v;
    private final List<int[]> kept = new ArrayList<>();
    private boolean keepsQuestions;
    private PlaneBench x;
    private int calls;

    Bench(int v) {
        this.v = v;
        x = new PlaneBench(v);
    }

    /** Another one with the same calls behind it. */
    Bench copy() {
        Bench other = new Bench(v);
        other.kept.addAll(kept);
        other.keepsQuestions = keepsQuestions;
        other.renew();
        return other;
    }

    /** From now on questions, too, are made once more by a new object: so it shows if they change something. */
    Bench keepQuestions(boolean keeps) {
        keepsQuestions = keeps;
        return this;
    }

    int variables() {
        return Math.max(1, Math.min(16, v));
    }

    /** How many calls that change something are left. */
    int left() {
        return MOST_CALLS - 1 - kept.size();
    }

    static boolean isQuestion(int which) {
        return which >= FAULT && which != BEGIN && which != RUN;
    }

    private void renew() {
        x = new PlaneBench(v);
        calls = kept.size();
        for (int[] call : kept) {
            answer(x, call);
        }
    }

    int call(int... call) {
        if (calls >= MOST_CALLS) {
            renew();
        }
        if (keepsQuestions || !isQuestion(call[0])) {
            if (left() <= 0) {
                throw new IllegalStateException("the test makes more calls than an object has");
            }
            kept.add(call);
        }
        calls++;
        return answer(x, call);
    }

    /** What the object answers; a boolean counts 1 or 0. */
    static int answer(PlaneBench x, int... c) {
        switch (c[0]) {
            case FEED: return x.feed(c[1], c[2], c[3], c[4], c[5]);
            case BACK: return x.back(c[1]);
            case LOAD: return x.load();
            case CHECK: return x.check();
            case FAULT: return x.fault(c[1]);
            case LITERAL: return x.literal(c[1], c[2]);
            case PIECE: return x.piece(c[1], c[2], c[3]);
            case HOLDS: return x.holds(c[1], c[2]) ? 1 : 0;
            case ORIGIN: return x.origin(c[1]);
            case BEGIN: return x.begin() ? 1 : 0;
            case RUN: return x.run(c[1]);
            case VALUE: return x.value(c[1]);
            case TRAIL: return x.trail(c[1], c[2]);
            case PROOF: return x.proof(c[1]);
            case COUNT: return x.count(c[1]);
            default: throw new IllegalArgumentException("no such call");
        }
    }

    int feed(int a, int b, int c, int d, int e) {
        return call(FEED, a, b, c, d, e);
    }

    int back(int n) {
        return call(BACK, n);
    }

    int load() {
        return call(LOAD);
    }

    int check() {
        return call(CHECK);
    }

    int fault(int what) {
        return call(FAULT, what);
    }

    int literal(int k, int n) {
        return call(LITERAL, k, n);
    }

    int piece(int k, int n, int i) {
        return call(PIECE, k, n, i);
    }

    boolean holds(int k, int mask) {
        return call(HOLDS, k, mask) == 1;
    }

    int origin(int k) {
        return call(ORIGIN, k);
    }

    boolean begin() {
        return call(BEGIN) == 1;
    }

    int run(int n) {
        return call(RUN, n);
    }

    int value(int n) {
        return call(VALUE, n);
    }

    int trail(int i, int what) {
        return call(TRAIL, i, what);
    }

    int proof(int i) {
        return call(PROOF, i);
    }

    int count(int what) {
        return call(COUNT, what);
    }
}
