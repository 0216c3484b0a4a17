import java.math.BigInteger;

/** Terms, 3: R is DIVIDED by c, where c is greater than any NUMBER of a text: the search alone divides by such ones. */
public final class GreatDivisorTest {
    private static final BigInteger ONE = BigInteger.ONE;
    private static final BigInteger TWO = BigInteger.TWO;
    private static final BigInteger THREE = BigInteger.valueOf(3);

    /**
     * LINES 1 and 2 make x1 x2 x3 x4 >= 3, which FORCES x2 where x1 is false, as they do not;
     * then LINE 3 FORCES x6, and LINE 4 is BROKEN.
     */
    private static final String PROBLEM =
        "x1 x2 x3 x4 x5>=3; x1 x2 x3 x4 ~x5>=3; x1 ~x2 x6>=1; x1 ~x2 ~x6>=1;";

    public static void main(String[] args) {
        Due.sentence("then it is DIVIDED by c");
        BigInteger[][] greats = {
            {power(127), power(127), BigInteger.ZERO}, {less(127), power(127).add(ONE), BigInteger.ZERO},
            {less(62), power(192), BigInteger.ZERO}, {power(112), power(112), BigInteger.ZERO},
            {power(112), power(112), ONE}, {power(120), power(111), less(192)}, {less(30), power(194), power(160)},
            {power(60), power(193), power(193).subtract(power(64))}, {less(96), power(64), less(64)},
            {power(64), power(64), BigInteger.ZERO}, {ONE, power(32), ONE}};
        for (BigInteger[] great : greats) {
            BigInteger t = great[0].multiply(great[1]).add(great[2]);
            for (BigInteger more : new BigInteger[] {BigInteger.ZERO, ONE, TWO, power(32), power(64).subtract(ONE), power(100)}) {
                if (more.compareTo(t.shiftRight(3)) < 0) {
                    divisor(great, t, more);
                }
            }
        }
        Due.end("GreatDivisorTest");
    }

    private static BigInteger power(int n) {
        return ONE.shiftLeft(n);
    }

    private static BigInteger less(int n) {
        return power(n).subtract(ONE);
    }

    /** c is t and more: x1 has c, or twice c, or one step to either side, and so has x3. */
    private static void divisor(BigInteger[] great, BigInteger t, BigInteger more) {
        for (int step = -2; step <= 2; step++) {
            for (int loose = -1; loose <= 1; loose++) {
                BigInteger near = more.add(BigInteger.valueOf(step));
                BigInteger third = more.add(BigInteger.valueOf(loose));
                if (third.signum() >= 0 && near.signum() >= 0) {
                    search(great, t, "", near, more, third);
                }
                BigInteger twice = near.add(more);
                if (third.signum() >= 0 && twice.signum() >= 0) {
                    search(great, t, "x1 ", twice, more, third);
                }
            }
        }
    }

    private static String times(String line, BigInteger n) {
        return n.signum() == 0 ? "" : line + n + " * + ";
    }

    private static String times(String line, BigInteger[] great) {
        return line + great[0] + " * " + great[1] + " * + " + times(line, great[2]);
    }

    /** In LINE 5 x1 has t and first, once more t if again is x1; x2 and x4 have t and more, x3 t and third; 3 t. */
    private static void search(BigInteger[] great, BigInteger t, String again, BigInteger first, BigInteger more,
        BigInteger third) {
        Bench x = Due.loaded(6, PROBLEM);
        String step = "p x6 x6 w " + times("1 2 + 2 d ", great) + (again.isEmpty() ? "" : times(again, great))
            + times("x1 ", first) + times("x2 ", more) + times("x3 ", third) + times("x4 ", more) + ";";
        Due.due("check()", Due.check(x, step), 1);
        BigInteger c = t.add(more);
        BigInteger one = t.add(first).add(again.isEmpty() ? BigInteger.ZERO : t);
        BigInteger degree = t.multiply(THREE);
        Due.due("LINE 5", Due.line(x, 5), one + " x1 " + c + " x2 " + t.add(third) + " x3 " + c + " x4 >= " + degree);
        x.begin();
        Due.due("run(3)", x.run(3), 3);
        Due.due("TRAIL", Due.trail(x), "-1@1/0 2@1/5 6@1/3");
        Due.due("run(1)", x.run(1), 1);
        boolean stays = third.equals(more);
        Due.due("PROOF", Due.proof(x), "p 4 3 s + s 5" + (stays ? "" : " x3 w") + " " + c + " d s + s ;\n");
        BigInteger right = up(stays ? degree : degree.subtract(t.add(third)), c);
        BigInteger left = ONE.add(up(one, c).min(right)).min(right);
        Due.due("LINE 6", Due.line(x, 6), left + " x1 " + (stays ? "1 x3 " : "") + "1 x4 >= " + right);
        Due.due("TRAIL", Due.trail(x), "");
    }

    private static BigInteger up(BigInteger n, BigInteger by) {
        return n.add(by).subtract(ONE).divide(by);
    }
}
