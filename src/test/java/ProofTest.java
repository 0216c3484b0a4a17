import java.math.BigInteger;
import java.util.Random;

/** What a search says must be so: its values hold, NONE means none, and the checker takes its PROOF. */
public final class ProofTest {
    private static int solved = 0;
    private static int refuted = 0;

    public static void main(String[] args) {
        for (int i = 0; i < 1500; i++) {
            run(new Random(77000 + i));
        }
        Due.due("many were SOLVED", solved > 100, true);
        Due.due("many had NONE", refuted > 100, true);
        Due.end("ProofTest");
    }

    private static void run(Random r) {
        int v = 3 + r.nextInt(6);
        String problem = problem(r, v);
        Bench x = Due.loaded(v, problem);
        x.begin();
        for (int i = 0; i < 10 && x.count(3) == 1; i++) {
            x.run(500);
        }
        if (x.count(3) == 2) {
            solved++;
            int mask = 0;
            for (int n = 1; n <= v; n++) {
                mask |= x.value(n) << (n - 1);
            }
            Due.due(problem + " holds", holding(x, mask), true);
        } else if (x.count(3) == 3) {
            refuted++;
            boolean some = false;
            for (int mask = 0; mask < 1 << v; mask++) {
                some |= holding(x, mask);
            }
            Due.due(problem + " has none", some, false);
        }
        takeProof(v, problem, x);
    }

    private static boolean holding(Bench x, int mask) {
        for (int k = 1; k <= x.count(1); k++) {
            if (!x.holds(k, mask)) {
                return false;
            }
        }
        return true;
    }

    private static void takeProof(int v, String problem, Bench x) {
        Bench y = Due.loaded(v, problem);
        for (String step : Due.proof(x).split("(?<=\n)")) {
            if (step.isEmpty() || step.matches("(?s).*[0-9]{61}.*")) {
                return;
            }
            Due.due(problem + " " + step, Due.check(y, step), 1);
        }
        Due.due(problem + ": LINES", y.count(0), x.count(0));
        for (int k = 1; k <= x.count(0); k++) {
            for (int n = 0; n <= v; n++) {
                Due.due("literal", y.literal(k, n), x.literal(k, n));
                for (int i = 0; i < 8; i++) {
                    Due.due("piece", y.piece(k, n, i), x.piece(k, n, i));
                }
            }
        }
    }

    private static String problem(Random r, int v) {
        StringBuilder text = new StringBuilder();
        int bits = r.nextInt(3) == 0 ? 40 : 1 + r.nextInt(4);
        for (int i = v + r.nextInt(2 * v); i > 0; i--) {
            BigInteger sum = BigInteger.ZERO;
            for (int n = 1; n <= v; n++) {
                if (r.nextInt(3) == 0) {
                    BigInteger c = new BigInteger(bits, r).add(BigInteger.ONE);
                    text.append(c).append(r.nextBoolean() ? "x" : "~x").append(n).append(' ');
                    sum = sum.add(c);
                }
            }
            text.append(r.nextInt(8) == 0 ? "<=" : ">=").append(sum.multiply(BigInteger.valueOf(1 + r.nextInt(6))).shiftRight(3));
            text.append(";\n");
        }
        return text.toString();
    }
}
