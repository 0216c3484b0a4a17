import java.math.BigInteger;

/** What tests with answers worked out by hand share. */
final class Due {
    static int wrong = 0;
    static int asked = 0;
    private static String sentence = "";

    private Due() {
    }

    /** The document's sentence that the next answers are about: what is wrong is told with it. */
    static void sentence(String words) {
        sentence = "[" + words + "] ";
    }

    static void due(String what, long got, long want) {
        asked++;
        if (got != want) {
            wrong++;
            System.out.println(sentence + what + " answered " + got + ", due is " + want);
        }
    }

    static void due(String what, boolean got, boolean want) {
        due(what, got ? 1 : 0, want ? 1 : 0);
    }

    static void due(String what, String got, String want) {
        asked++;
        if (!got.equals(want)) {
            wrong++;
            System.out.println(sentence + what + " answered [" + got + "], due is [" + want + "]");
        }
    }

    static void end(String name) {
        System.out.println(name + ": " + asked + " answers, " + wrong + " not as due");
        System.exit(wrong == 0 && asked > 0 ? 0 : 1);
    }

    /** The text's bytes from a place on, five words of them, blanks behind its end. */
    static int[] words(String text, int from) {
        int[] words = new int[5];
        for (int b = 0; b < 20; b++) {
            int c = from + b < text.length() ? text.charAt(from + b) : ' ';
            words[b / 4] = words[b / 4] << 8 | c & 255;
        }
        return words;
    }

    /** The text comes behind the tape: twenty bytes at a time, the blanks that fill up the last ones go again. */
    static Bench write(Bench x, String text) {
        for (int i = 0; i < text.length(); i += 20) {
            int[] words = words(text, i);
            x.feed(words[0], words[1], words[2], words[3], words[4]);
        }
        if (text.length() % 20 != 0) {
            x.back(20 - text.length() % 20);
        }
        return x;
    }

    static int load(Bench x, String problem) {
        return write(x, problem).load();
    }

    static Bench loaded(int v, String problem) {
        Bench x = new Bench(v);
        load(x, problem);
        return x;
    }

    static int check(Bench x, String steps) {
        return write(x, steps).check();
    }

    static void fault(String what, Bench x, int kind, int place) {
        due(what + ": fault(0)", x.fault(0), kind);
        due(what + ": fault(1)", x.fault(1), place);
    }

    /** A COEFFICIENT, of the VARIABLE 0 the DEGREE. */
    static BigInteger number(Bench x, int k, int n) {
        BigInteger number = BigInteger.ZERO;
        for (int i = 7; i >= 0; i--) {
            number = number.shiftLeft(32).or(BigInteger.valueOf(x.piece(k, n, i) & 0xffffffffL));
        }
        return number;
    }

    /** A LINE as text: "2 x1 1 ~x3 >= 2". */
    static String line(Bench x, int k) {
        StringBuilder text = new StringBuilder();
        for (int n = 1; n <= x.variables(); n++) {
            BigInteger number = number(x, k, n);
            int sign = x.literal(k, n);
            if (number.signum() != 0 || sign != 0) {
                text.append(number).append(sign == 1 ? " x" : sign == -1 ? " ~x" : " ?").append(n).append(' ');
            }
        }
        return text.append(">= ").append(number(x, k, 0)).toString();
    }

    static String proof(Bench x) {
        StringBuilder text = new StringBuilder();
        for (int i = 0; x.proof(i) != PlaneBench.NONE; i++) {
            text.append((char) x.proof(i));
        }
        return text.toString();
    }

    /** The TRAIL as "literal@level/line" behind one another. */
    static String trail(Bench x) {
        StringBuilder text = new StringBuilder();
        for (int i = 0; i < x.count(4); i++) {
            text.append(i == 0 ? "" : " ").append(x.trail(i, 0)).append('@').append(x.trail(i, 1));
            text.append('/').append(x.trail(i, 2));
        }
        return text.toString();
    }
}
