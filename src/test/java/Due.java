/** What tests with answers worked out by hand share. */
final class Due {
    static int wrong = 0;
    static int asked = 0;

    private Due() {
    }

    static void due(String what, long got, long want) {
        asked++;
        if (got != want) {
            wrong++;
            System.out.println(what + " answered " + got + ", due is " + want);
        }
    }

    static void due(String what, boolean got, boolean want) {
        due(what, got ? 1 : 0, want ? 1 : 0);
    }

    static void due(String what, String got, String want) {
        asked++;
        if (!got.equals(want)) {
            wrong++;
            System.out.println(what + " answered [" + got + "], due is [" + want + "]");
        }
    }

    static void end(String name) {
        System.out.println(name + ": " + asked + " answers, " + wrong + " not as due");
        System.exit(wrong == 0 && asked > 0 ? 0 : 1);
    }

    /** The text comes behind the tape: twenty bytes at a time, the blanks that fill up the last ones go again. */
    static PlaneBench write(PlaneBench x, String text) {
        for (int i = 0; i < text.length(); i += 20) {
            int[] words = new int[5];
            for (int b = 0; b < 20; b++) {
                int c = i + b < text.length() ? text.charAt(i + b) : ' ';
                words[b / 4] = words[b / 4] << 8 | c & 255;
            }
            x.feed(words[0], words[1], words[2], words[3], words[4]);
        }
        x.back((20 - text.length() % 20) % 20);
        return x;
    }

    static PlaneBench loaded(int v, String problem) {
        PlaneBench x = write(new PlaneBench(v), problem);
        x.load();
        return x;
    }

    static int check(PlaneBench x, String steps) {
        return write(x, steps).check();
    }

    /** A LINE as text, for LINES of small numbers: "2 x1 1 ~x3 >= 2". */
    static String line(PlaneBench x, int k) {
        StringBuilder text = new StringBuilder();
        for (int n = 1; n <= 16; n++) {
            if (x.piece(k, n, 0) != 0) {
                text.append(x.piece(k, n, 0)).append(x.literal(k, n) == 1 ? " x" : " ~x").append(n).append(' ');
            }
        }
        return text.append(">= ").append(x.piece(k, 0, 0)).toString();
    }

    static String proof(PlaneBench x) {
        StringBuilder text = new StringBuilder();
        for (int i = 0; x.proof(i) != PlaneBench.NONE; i++) {
            text.append((char) x.proof(i));
        }
        return text.toString();
    }

    /** The TRAIL as "literal@level/line" behind one another. */
    static String trail(PlaneBench x) {
        StringBuilder text = new StringBuilder();
        for (int i = 0; i < x.count(4); i++) {
            text.append(i == 0 ? "" : " ").append(x.trail(i, 0)).append('@').append(x.trail(i, 1));
            text.append('/').append(x.trail(i, 2));
        }
        return text.toString();
    }
}
