import java.util.LinkedHashMap;
import java.util.Map;

/**
 * All that can be told of a bench: what it answers, and what it would answer behind a load(), a check() and ACTS, which
 * show the tape and what a search remembers. The bench itself is not touched.
 */
final class Seen {
    private final Map<String, Integer> answers = new LinkedHashMap<>();

    private Seen() {
    }

    /** What it answers now. */
    static Seen now(Bench x) {
        Seen seen = new Seen();
        seen.ask("", x.copy());
        return seen;
    }

    /** What it answers now and would answer then. */
    static Seen whole(Bench x) {
        Seen seen = now(x);
        Bench loading = x.copy();
        seen.put("load()", loading.load());
        seen.ask("load(), ", loading);
        Bench checking = x.copy();
        seen.put("check()", checking.check());
        seen.ask("check(), ", checking);
        Bench running = x.copy();
        seen.put("run(40)", running.run(40));
        seen.ask("run(40), ", running);
        return seen;
    }

    private void put(String call, int answer) {
        answers.put(call, answer);
    }

    private void put(String ahead, Bench x, int... call) {
        StringBuilder name = new StringBuilder(ahead).append(NAMES[call[0]]).append('(');
        for (int i = 1; i < call.length; i++) {
            name.append(i == 1 ? "" : ", ").append(call[i]);
        }
        put(name.append(')').toString(), x.call(call));
    }

    private static final String[] NAMES = {"feed", "back", "load", "check", "fault", "literal", "piece", "holds", "origin",
        "begin", "run", "value", "trail", "proof", "count"};

    private void ask(String ahead, Bench x) {
        x.keepQuestions(false);
        put(ahead, x, Bench.FAULT, 0);
        put(ahead, x, Bench.FAULT, 1);
        for (int what = 0; what <= 10; what++) {
            put(ahead, x, Bench.COUNT, what);
        }
        askLines(ahead, x, x.count(0));
        for (int i = 0; i <= 16; i++) {
            put(ahead, x, Bench.VALUE, i);
            for (int what = 0; what <= 2; what++) {
                put(ahead, x, Bench.TRAIL, i, what);
            }
        }
        int bytes = x.count(2);
        for (int i = 0; i <= bytes; i++) {
            put(ahead, x, Bench.PROOF, i);
        }
    }

    private void askLines(String ahead, Bench x, int lines) {
        for (int k = 1; k <= lines + 1; k++) {
            put(ahead, x, Bench.ORIGIN, k);
            put(ahead, x, Bench.HOLDS, k, 0);
            put(ahead, x, Bench.HOLDS, k, 0x5555);
            for (int n = 0; n <= x.variables(); n++) {
                put(ahead, x, Bench.LITERAL, k, n);
                for (int i = 0; i < 8; i++) {
                    put(ahead, x, Bench.PIECE, k, n, i);
                }
            }
        }
    }

    /** The two must answer the same, but for the calls named, whatever they answer. */
    static void same(String what, Seen got, Seen due, String... free) {
        Due.due(what + ": how many answers there are", got.answers.size(), due.answers.size());
        for (String call : due.answers.keySet()) {
            if (!java.util.List.of(free).contains(call)) {
                Due.due(what + ": " + call, got.answers.getOrDefault(call, Integer.MIN_VALUE), due.answers.get(call));
            }
        }
    }
}
