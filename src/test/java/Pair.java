/** A PlaneBench and a PlainModel side by side: each call goes to both, and the answers must be the same. */
final class Pair {
    static int wrong = 0;
    /** Calls of each object that are left for questions. */
    private static final int QUESTIONS = 100;

    final Bench bench;
    final PlainModel model;
    private final StringBuilder told = new StringBuilder();

    Pair(int v) {
        bench = new Bench(v);
        model = new PlainModel(v);
        told.append("new PlaneBench(").append(v).append(")");
    }

    private static String written(int... call) {
        StringBuilder text = new StringBuilder("call ").append(call[0]).append(" (");
        for (int i = 1; i < call.length; i++) {
            text.append(i == 1 ? "" : ", ").append(call[i]);
        }
        return text.append(")").toString();
    }

    /** The call by both; none if it is one that changes something, and the object has had its calls of these. */
    int same(int... call) {
        if (bench.left() <= QUESTIONS && !Bench.isQuestion(call[0])) {
            return 0;
        }
        int got = bench.call(call);
        int due = model.answer(call);
        if (got != due) {
            wrong++;
            if (wrong <= 20) {
                System.out.println(told + "\n  " + written(call) + " answered " + got + ", due is " + due);
            }
        }
        return due;
    }

    /** Comes to the tape, if there are calls enough left for it and for what is to be done with it. */
    void write(String text) {
        if (text.length() / 20 + 20 > bench.left() - QUESTIONS) {
            return;
        }
        told.append("\n  tape: ").append(text.replace("\n", "\\n"));
        for (int i = 0; i < text.length(); i += 20) {
            int[] words = Due.words(text, i);
            same(Bench.FEED, words[0], words[1], words[2], words[3], words[4]);
        }
        same(Bench.BACK, (20 - text.length() % 20) % 20);
    }

    /** A call that is told if a later answer is wrong. */
    int call(int... call) {
        told.append("\n  ").append(written(call));
        return same(call);
    }

    int load() {
        int n = call(Bench.LOAD);
        compareTexts();
        return n;
    }

    int check() {
        int n = call(Bench.CHECK);
        compareTexts();
        return n;
    }

    void begin() {
        call(Bench.BEGIN);
    }

    int run(int n) {
        int done = call(Bench.RUN, n);
        compareSearch();
        return done;
    }

    void compareTexts() {
        same(Bench.FAULT, 0);
        same(Bench.FAULT, 1);
        compareCounts();
    }

    void compareCounts() {
        for (int i = -1; i <= 11; i++) {
            same(Bench.COUNT, i);
        }
    }

    void compareSearch() {
        compareCounts();
        for (int i = -1; i <= 17; i++) {
            same(Bench.VALUE, i);
            for (int what = -1; what <= 3; what++) {
                same(Bench.TRAIL, i, what);
            }
        }
    }

    void compareProof(int from, int to) {
        for (int i = from; i < to; i++) {
            same(Bench.PROOF, i);
        }
    }

    void compareLine(int k, int mask) {
        same(Bench.ORIGIN, k);
        same(Bench.HOLDS, k, mask);
        for (int n = -1; n <= model.v + 1; n++) {
            same(Bench.LITERAL, k, n);
            for (int i = -1; i <= 8; i++) {
                same(Bench.PIECE, k, n, i);
            }
        }
    }

    void compareAll(int mask) {
        compareTexts();
        compareSearch();
        compareProof(-1, model.proof.length() + 1);
        for (int k = 0; k <= model.rows.size() + 1; k++) {
            compareLine(k, mask);
        }
    }
}
