import java.math.BigInteger;
import java.util.LinkedHashMap;
import java.util.Map;

/** Benches in all the states that a refused call can meet. Each has V 3. */
final class States {
    /** ~x1 lets LINE 1 FORCE x3, LINE 2 x2; LINE 3 is BROKEN then, and x1 is learned. */
    static final String LEARNING = "x1x3>=1; x1x2>=1; x1~x2~x3>=1;";

    private States() {
    }

    static Map<String, Bench> all() {
        Map<String, Bench> states = new LinkedHashMap<>();
        states.put("a new object", new Bench(3));
        states.put("LINES", lines());
        states.put("a search that goes on", going());
        states.put("SOLVED", ended(LEARNING, 2));
        states.put("NONE", ended("x1>=1;~x1x2>=1;~x2>=1;", 3));
        states.put("FULL", ended(withoutRoom(), 4));
        return states;
    }

    static Bench lines() {
        Bench x = Due.loaded(3, "2x1 3~x2 x3>=3; x1 x2=1; >=1;");
        Due.due("LINES", Due.check(x, "p 1 2 + 7 * ; u x1 x2 x3 >= 1 ; ?"), 2);
        return x;
    }

    /** It has learned a LINE, gone back, and remembers values of VARIABLES that have none. */
    static Bench going() {
        Bench x = Due.loaded(3, LEARNING);
        x.begin();
        Due.due("going on", x.run(6), 6);
        Due.due("going on", Due.trail(x), "1@0/4 2@1/0");
        return x;
    }

    static Bench ended(String problem, int state) {
        Bench x = Due.loaded(3, problem);
        x.begin();
        x.run(500);
        Due.due("ended", x.count(3), state);
        return x;
    }

    static String withoutRoom() {
        BigInteger most = BigInteger.ONE.shiftLeft(128);
        return numbers(most, most);
    }

    /** With ~x1 LINE 1 FORCES x2 and x3, and LINE 2 is BROKEN: K takes LINE 1, whose DEGREE is d, a times. */
    static String numbers(BigInteger a, BigInteger d) {
        BigInteger b = d.subtract(BigInteger.ONE);
        return "x2 " + b + "x1 " + b + "x3>=" + d + "; " + a + "~x2 " + a + "x1>=" + a + ";";
    }
}
