import java.util.Random;

/** Runs by chance, always the same ones: every answer must be the model's. */
public final class ModelTest {
    private static final int[] states = new int[5];
    private static final int[] faults = new int[7];
    private static final int[] origins = new int[5];
    /** Searches that were FULL: by LINES, by the PROOF, by a number. */
    private static final int[] fulls = new int[3];

    public static void main(String[] args) {
        int runs = args.length > 0 ? Integer.parseInt(args[0]) : 2500;
        long seed = args.length > 1 ? Long.parseLong(args[1]) : 1;
        for (int i = 0; i < runs; i++) {
            run(new Random(seed * 1000003 + i));
        }
        for (int i = 0; i < runs / 5; i++) {
            runWild(new Random(seed * 3000017 + i));
        }
        for (int i = 0; i < runs / 10; i++) {
            runHard(new Random(seed * 2000003 + i));
        }
        System.out.println("ends of searches " + java.util.Arrays.toString(states)
            + ", faults " + java.util.Arrays.toString(faults) + ", origins " + java.util.Arrays.toString(origins)
            + ", full " + java.util.Arrays.toString(fulls));
        System.out.println(Pair.wrong == 0 ? "ModelTest: all answers are as due" : Pair.wrong + " answers are not as due");
        if (Pair.wrong != 0 || few(states, 0) || few(faults, 0) || few(origins, 1) || few(fulls, 0)) {
            System.exit(1);
        }
    }

    /** Whether something that the runs are to reach was not reached. */
    private static boolean few(int[] seen, int from) {
        for (int i = from; i < seen.length; i++) {
            if (seen[i] == 0) {
                System.out.println("the runs do not reach all they should");
                return true;
            }
        }
        return false;
    }

    private static void run(Random r) {
        int v = r.nextInt(4) == 0 ? 1 + r.nextInt(16) : 2 + r.nextInt(7);
        Pair p = new Pair(r.nextInt(60) == 0 ? r.nextInt(40) - 10 : v);
        v = p.model.v;
        int style = r.nextInt(6);
        int rounds = 1 + r.nextInt(3);
        for (int i = 0; i < rounds; i++) {
            p.write(broken(r, problem(r, v, style)));
            p.load();
            faults[p.model.faultKind]++;
            if (r.nextInt(3) == 0) {
                steps(r, p);
            }
            if (r.nextInt(8) != 0) {
                p.begin();
            }
            search(r, p);
            p.compareAll(r.nextInt());
        }
        for (PlainModel.Row row : p.model.rows) {
            origins[row.origin]++;
        }
    }

    /** Calls in any order with any arguments. */
    private static void runWild(Random r) {
        Pair p = new Pair(wild(r));
        for (int i = 0; i < 250; i++) {
            int which = r.nextInt(15);
            if (r.nextInt(12) == 0) {
                p.write(r.nextBoolean() ? problem(r, p.model.v, r.nextInt(6)) : step(r, p.model.v, p.model.rows.size()));
            }
            if (which != Bench.LOAD || r.nextInt(4) == 0) {
                p.call(which, wild(r), wild(r), wild(r), wild(r), wild(r));
            }
        }
        p.compareAll(r.nextInt());
    }

    private static int wild(Random r) {
        switch (r.nextInt(12)) {
            case 0: return r.nextInt();
            case 1: return Integer.MAX_VALUE - r.nextInt(2);
            case 2: return Integer.MIN_VALUE + r.nextInt(2);
            case 3: return r.nextInt(1100) - 500;
            case 4: return r.nextInt(40) - 20;
            case 5: return 0x20202020;
            default: return r.nextInt(9) - 1;
        }
    }

    /** Searches that learn many LINES, up to where one of the limits ends them. */
    private static void runHard(Random r) {
        int v = 8 + r.nextInt(9);
        Pair p = new Pair(v);
        int kind = r.nextInt(6);
        p.write(kind == 0 ? pigeons(v) : kind < 3 ? mixed(r, v) : subset(r, v));
        p.load();
        if (r.nextInt(3) == 0) {
            p.write(scaled(r, p.model.rows.size()));
            p.check();
        }
        if (r.nextInt(6) == 0) {
            p.write("p 1 ;\n".repeat(250 + r.nextInt(60)));
            p.check();
        }
        p.begin();
        for (int i = 0; i < 8; i++) {
            p.run(r.nextInt(3) == 0 ? r.nextInt(40) : 500);
            if (r.nextInt(6) == 0) {
                steps(r, p);
            }
        }
        compareSome(r, p);
        states[p.model.state]++;
        if (p.model.state == 4) {
            fulls[p.model.rows.size() == 300 ? 0 : p.model.proof.length() > 18000 ? 1 : 2]++;
        }
    }

    /** All answers of a long search are many: some LINES, a piece of the PROOF and its end. */
    private static void compareSome(Random r, Pair p) {
        p.compareTexts();
        p.compareSearch();
        int size = p.model.proof.length();
        int from = r.nextInt(size + 1);
        p.compareProof(from, Math.min(size, from + 1500));
        p.compareProof(size - 10, size + 1);
        int lines = p.model.rows.size();
        for (int i = 0; i < 6; i++) {
            p.compareLine(i == 0 ? lines : r.nextInt(lines + 2), r.nextInt());
        }
    }

    private static String subset(Random r, int v) {
        StringBuilder text = new StringBuilder();
        int lines = 1 + r.nextInt(4);
        int digits = r.nextInt(3) == 0 ? 1 + r.nextInt(2) : 1 + r.nextInt(58);
        boolean uneven = r.nextBoolean();
        for (int i = 0; i < lines; i++) {
            java.math.BigInteger sum = java.math.BigInteger.ZERO;
            for (int n = 1; n <= v; n++) {
                java.math.BigInteger c = new java.math.BigInteger(uneven ? r.nextInt(3 * digits) : 3 * digits, r).add(java.math.BigInteger.ONE);
                sum = sum.add(r.nextInt(2) == 0 ? c : java.math.BigInteger.ZERO);
                if (text.length() < 3500) {
                    text.append(c).append(r.nextInt(4) == 0 ? "~x" : "x").append(n).append(' ');
                }
            }
            text.append(r.nextInt(4) == 0 ? ">=" : r.nextInt(3) == 0 ? "<=" : "=").append(sum).append(";\n");
        }
        return text.toString();
    }

    /** Small and great numbers beside each other: what is learned of them soon has no ROOM. */
    private static String mixed(Random r, int v) {
        StringBuilder text = new StringBuilder();
        for (int i = 0; i < 2 * v && text.length() < 3300; i++) {
            java.math.BigInteger sum = java.math.BigInteger.ZERO;
            java.math.BigInteger most = java.math.BigInteger.ZERO;
            for (int t = 2 + r.nextInt(3); t > 0; t--) {
                java.math.BigInteger c = new java.math.BigInteger(r.nextBoolean() ? 2 : 120 + r.nextInt(60), r);
                text.append(c).append(r.nextInt(2) == 0 ? "~x" : "x").append(1 + r.nextInt(v)).append(' ');
                sum = sum.add(c);
                most = most.max(c);
            }
            text.append(">=").append(sum.subtract(most)).append(";\n");
        }
        return text.toString();
    }

    /** One pigeon more than holes, as far as the VARIABLES go. */
    private static String pigeons(int v) {
        int holes = v >= 12 ? 3 : 2;
        int pigeons = v / holes;
        StringBuilder text = new StringBuilder();
        for (int i = 0; i < pigeons; i++) {
            for (int h = 1; h <= holes; h++) {
                text.append('x').append(i * holes + h).append(' ');
            }
            text.append(">=1;");
        }
        for (int h = 1; h <= holes; h++) {
            for (int i = 0; i < pigeons; i++) {
                for (int j = 0; j < i && text.length() < 3900; j++) {
                    text.append("~x").append(i * holes + h).append("~x").append(j * holes + h).append(">=1;");
                }
            }
        }
        return text.toString();
    }

    /** LINES of the PROBLEM with numbers up to where ROOM ends. */
    private static String scaled(Random r, int lines) {
        StringBuilder text = new StringBuilder();
        for (int k = 1; k <= lines; k++) {
            text.append("p ").append(k).append(' ');
            int bits = 100 + r.nextInt(150);
            for (; bits > 190; bits -= 190) {
                text.append(java.math.BigInteger.ONE.shiftLeft(190)).append(" * ");
            }
            text.append(new java.math.BigInteger(bits, r).add(java.math.BigInteger.ONE)).append(" * ;\n");
        }
        return text.toString();
    }

    private static void search(Random r, Pair p) {
        for (int i = 0; i < 12; i++) {
            if (r.nextInt(6) == 0) {
                steps(r, p);
            }
            int n = r.nextInt(20) == 0 ? r.nextInt(1100) - 300 : r.nextInt(3) == 0 ? r.nextInt(501) : r.nextInt(12);
            p.run(n);
            states[p.model.state]++;
        }
    }

    private static void steps(Random r, Pair p) {
        StringBuilder text = new StringBuilder();
        int n = r.nextInt(6);
        for (int i = 0; i < n; i++) {
            text.append(step(r, p.model.v, p.model.rows.size() + (r.nextInt(9) == 0 ? i : 0)));
        }
        p.write(broken(r, text.toString()));
        p.check();
        faults[p.model.faultKind]++;
    }

    private static String gap(Random r) {
        int n = r.nextInt(40);
        return n < 30 ? " " : n < 32 ? "\n" : n < 34 ? "\t" : n < 35 ? " # p u\n" : n < 36 ? "  " : n < 37 ? "#\n" : " ";
    }

    private static String literal(Random r, int v) {
        int n = r.nextInt(120) == 0 ? r.nextInt(25) : 1 + r.nextInt(v);
        return (r.nextInt(2) == 0 ? "~" : "") + (r.nextInt(20) == 0 && n < 10 ? "x0" : "x") + n;
    }

    private static String number(Random r, int style) {
        int digits = style == 0 ? 1 + r.nextInt(60) : style == 1 ? 1 + r.nextInt(3) : 1;
        if (style == 2 && r.nextInt(3) == 0) {
            digits = 56 + r.nextInt(5);
        }
        StringBuilder text = new StringBuilder();
        for (int i = 0; i < digits; i++) {
            text.append((char) ('0' + r.nextInt(i == 0 && style > 2 ? 5 : 10)));
        }
        return text.toString();
    }

    /** A number that is seldom 0. */
    private static String factor(Random r) {
        return (r.nextInt(40) == 0 ? "0" : "1") + number(r, r.nextInt(6)).substring(1);
    }

    private static String sum(Random r, int v, int style) {
        StringBuilder text = new StringBuilder();
        int terms = r.nextInt(30) == 0 ? r.nextInt(20) : 1 + r.nextInt(Math.min(v, style == 5 ? 3 : 6));
        for (int i = 0; i < terms; i++) {
            if (style != 5) {
                int sign = r.nextInt(5);
                text.append(sign == 0 ? "-" + gap(r) : sign == 1 ? "+" : "");
                text.append(sign < 2 || r.nextInt(4) != 0 ? number(r, style) : "");
                text.append(r.nextInt(5) == 0 ? "" : gap(r));
            }
            text.append(literal(r, v)).append(gap(r));
        }
        return text.toString();
    }

    private static String problem(Random r, int v, int style) {
        StringBuilder text = new StringBuilder();
        int n = r.nextInt(25) == 0 ? r.nextInt(50) : style == 5 ? v * 3 + r.nextInt(v * 2) : 1 + r.nextInt(2 * v);
        for (int i = 0; i < n && text.length() < 3000; i++) {
            String relation = style == 5 ? ">=" : new String[] {">=", ">=", "<=", "="}[r.nextInt(4)];
            text.append(sum(r, v, style)).append(relation).append(gap(r));
            text.append(style == 5 ? "1" : (r.nextInt(6) == 0 ? "-" : "") + number(r, style));
            text.append(";").append(gap(r));
        }
        return text.toString();
    }

    private static String step(Random r, int v, int lines) {
        int kind = r.nextInt(10);
        if (kind < 2) {
            int style = r.nextInt(6);
            String right = r.nextInt(3) == 0 ? "0" : number(r, style);
            return "u" + gap(r) + sum(r, v, style) + ">=" + gap(r) + right + gap(r) + ";" + gap(r);
        }
        if (kind == 2) {
            return "c " + r.nextInt(lines + 2) + " ;";
        }
        StringBuilder text = new StringBuilder("p ");
        int height = 0;
        int items = 1 + r.nextInt(r.nextInt(10) == 0 ? 60 : 12);
        for (int i = 0; i < items; i++) {
            int what = r.nextInt(9);
            if (height == 0 || what < 2 || r.nextInt(150) == 0) {
                text.append(1 + r.nextInt(Math.max(1, lines))).append(gap(r));
                height++;
            } else if (what == 2) {
                text.append(literal(r, v)).append(gap(r));
                height++;
            } else if (what == 3) {
                text.append(literal(r, v)).append(" w ");
            } else if (what == 4) {
                text.append(factor(r)).append(" * ");
            } else if (what == 5) {
                text.append(factor(r)).append(" d ");
            } else if (what == 6) {
                text.append("s ");
            } else if (height > 1) {
                text.append("+ ");
                height--;
            }
        }
        for (; height > 1 && r.nextInt(50) != 0; height--) {
            text.append("+ ");
        }
        return text.append(";").append(gap(r)).toString();
    }

    /** Now and then a byte goes, comes or changes. */
    private static String broken(Random r, String text) {
        String odd = "+-*;>=<pucdswx~#0123456789 \n\t\r\u0000\u00e9\u007f?a";
        StringBuilder changed = new StringBuilder(text);
        int times = r.nextInt(5) == 0 ? 1 + r.nextInt(3) : 0;
        for (int i = 0; i < times && changed.length() > 0; i++) {
            int at = r.nextInt(changed.length());
            char c = odd.charAt(r.nextInt(odd.length()));
            switch (r.nextInt(4)) {
                case 0: changed.deleteCharAt(at); break;
                case 1: changed.insert(at, c); break;
                case 2: changed.setCharAt(at, c); break;
                default: changed.setLength(at); break;
            }
        }
        return changed.toString();
    }
}
