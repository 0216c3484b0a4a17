/** A PlaneBench and a PlainModel side by side: each call goes to both, and the answers must be the same. */
final class Pair {
    static int wrong = 0;

    final PlaneBench bench;
    final PlainModel model;
    private final StringBuilder told = new StringBuilder();

    Pair(int v) {
        bench = new PlaneBench(v);
        model = new PlainModel(v);
        told.append("new PlaneBench(").append(v).append(")");
    }

    int same(String call, int got, int due) {
        if (got != due) {
            wrong++;
            if (wrong <= 20) {
                System.out.println(told + "\n  " + call + " answered " + got + ", due is " + due);
            }
        }
        return due;
    }

    /** The bytes of the text, the last 20 filled up with blanks that go again. */
    void write(String text) {
        told.append("\n  tape: ").append(text.replace("\n", "\\n"));
        for (int i = 0; i < text.length(); i += 20) {
            int[] words = new int[5];
            for (int b = 0; b < 20; b++) {
                int c = i + b < text.length() ? text.charAt(i + b) : ' ';
                words[b / 4] = words[b / 4] << 8 | c & 255;
            }
            int got = bench.feed(words[0], words[1], words[2], words[3], words[4]);
            same("feed", got, model.feed(words[0], words[1], words[2], words[3], words[4]));
        }
        int over = (20 - text.length() % 20) % 20;
        same("back", bench.back(over), model.back(over));
    }

    int load() {
        told.append("\n  load()");
        int n = same("load()", bench.load(), model.load());
        compareTexts();
        return n;
    }

    int check() {
        told.append("\n  check()");
        int n = same("check()", bench.check(), model.check());
        compareTexts();
        return n;
    }

    void begin() {
        told.append("\n  begin()");
        same("begin()", bench.begin() ? 1 : 0, model.begin() ? 1 : 0);
    }

    int run(int n) {
        told.append("\n  run(").append(n).append(")");
        int done = same("run", bench.run(n), model.run(n));
        compareSearch();
        return done;
    }

    /** One call of the face, whichever, with these arguments. */
    void call(int which, int a, int b, int c) {
        String call = "call " + which + " (" + a + ", " + b + ", " + c + ")";
        told.append("\n  ").append(call);
        switch (which) {
            case 0: same(call, bench.feed(a, b, c, a, b), model.feed(a, b, c, a, b)); break;
            case 1: same(call, bench.back(a), model.back(a)); break;
            case 2: same(call, bench.load(), model.load()); break;
            case 3: same(call, bench.check(), model.check()); break;
            case 4: same(call, bench.fault(a), model.fault(a)); break;
            case 5: same(call, bench.literal(a, b), model.literal(a, b)); break;
            case 6: same(call, bench.piece(a, b, c), model.piece(a, b, c)); break;
            case 7: same(call, bench.holds(a, b) ? 1 : 0, model.holds(a, b) ? 1 : 0); break;
            case 8: same(call, bench.origin(a), model.origin(a)); break;
            case 9: same(call, bench.begin() ? 1 : 0, model.begin() ? 1 : 0); break;
            case 10: same(call, bench.run(a), model.run(a)); break;
            case 11: same(call, bench.value(a), model.value(a)); break;
            case 12: same(call, bench.trail(a, b), model.trail(a, b)); break;
            case 13: same(call, bench.proof(a), model.proof(a)); break;
            default: same(call, bench.count(a), model.count(a)); break;
        }
    }

    void compareTexts() {
        same("fault(0)", bench.fault(0), model.fault(0));
        same("fault(1)", bench.fault(1), model.fault(1));
        compareCounts();
    }

    void compareCounts() {
        for (int i = -1; i <= 11; i++) {
            same("count(" + i + ")", bench.count(i), model.count(i));
        }
    }

    void compareSearch() {
        compareCounts();
        for (int i = -1; i <= 17; i++) {
            same("value(" + i + ")", bench.value(i), model.value(i));
            for (int what = -1; what <= 3; what++) {
                same("trail(" + i + ", " + what + ")", bench.trail(i, what), model.trail(i, what));
            }
        }
    }

    void compareAll(int mask) {
        compareTexts();
        compareSearch();
        for (int i = -1; i <= model.proof.length(); i++) {
            same("proof(" + i + ")", bench.proof(i), model.proof(i));
        }
        for (int k = 0; k <= model.rows.size() + 1; k++) {
            same("origin(" + k + ")", bench.origin(k), model.origin(k));
            same("holds(" + k + ", " + mask + ")", bench.holds(k, mask) ? 1 : 0, model.holds(k, mask) ? 1 : 0);
            for (int n = -1; n <= model.v + 1; n++) {
                same("literal(" + k + ", " + n + ")", bench.literal(k, n), model.literal(k, n));
                for (int i = -1; i <= 8; i++) {
                    same("piece(" + k + ", " + n + ", " + i + ")", bench.piece(k, n, i), model.piece(k, n, i));
                }
            }
        }
    }
}
