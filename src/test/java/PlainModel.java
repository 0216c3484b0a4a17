import java.math.BigInteger;
import java.util.ArrayList;
import java.util.List;
import java.util.regex.Matcher;
import java.util.regex.Pattern;

/** The document once more, with the Java library's whole numbers and lists: what ModelTest compares with. */
final class PlainModel {
    static final BigInteger ROOM = BigInteger.ONE.shiftLeft(256);
    private static final Pattern GAP = Pattern.compile("(?:[\\t\\n ]++|#[\\t -~]*+)*+");
    private static final Pattern TOKEN = Pattern.compile("[0-9]+|~?x[0-9][0-9]?|>=|<=|[-+*;=pucdsw]");

    static final class Fault extends RuntimeException {
        final int kind;
        final int place;

        Fault(int kind, int place) {
            super(null, null, false, false);
            this.kind = kind;
            this.place = place;
        }
    }

    static final class Full extends RuntimeException {
        Full() {
            super(null, null, false, false);
        }
    }

    /** Numbers with signs: above 0 of xN, below 0 of ~xN. */
    static final class Row {
        final BigInteger[] of;
        BigInteger degree = BigInteger.ZERO;
        int origin;

        Row(int v) {
            of = new BigInteger[v + 1];
            java.util.Arrays.fill(of, BigInteger.ZERO);
        }

        Row copy() {
            Row r = new Row(of.length - 1);
            System.arraycopy(of, 0, r.of, 0, of.length);
            r.degree = degree;
            return r;
        }

        Row plus(Row b) {
            Row r = new Row(of.length - 1);
            r.degree = degree.add(b.degree);
            for (int n = 1; n < of.length; n++) {
                r.of[n] = of[n].add(b.of[n]);
                if (of[n].signum() * b.of[n].signum() < 0) {
                    r.degree = r.degree.subtract(of[n].abs().min(b.of[n].abs()));
                }
            }
            r.degree = r.degree.max(BigInteger.ZERO);
            return r;
        }

        boolean fits() {
            boolean fits = degree.compareTo(ROOM) < 0;
            for (BigInteger x : of) {
                fits &= x.abs().compareTo(ROOM) < 0;
            }
            return fits;
        }

        Row times(BigInteger f) {
            Row r = copy();
            for (int n = 1; n < of.length; n++) {
                r.of[n] = of[n].multiply(f);
            }
            r.degree = degree.multiply(f);
            return r;
        }

        static BigInteger up(BigInteger a, BigInteger f) {
            return a.add(f).subtract(BigInteger.ONE).divide(f);
        }

        Row divided(BigInteger f) {
            Row r = copy();
            for (int n = 1; n < of.length; n++) {
                BigInteger size = up(of[n].abs(), f);
                r.of[n] = of[n].signum() < 0 ? size.negate() : size;
            }
            r.degree = up(degree, f);
            return r;
        }

        Row cut() {
            Row r = copy();
            for (int n = 1; n < of.length; n++) {
                BigInteger size = of[n].abs().min(degree);
                r.of[n] = of[n].signum() < 0 ? size.negate() : size;
            }
            return r;
        }

        Row without(int n) {
            Row r = copy();
            r.degree = degree.subtract(of[n].abs()).max(BigInteger.ZERO);
            r.of[n] = BigInteger.ZERO;
            return r;
        }

        Row opposite() {
            Row r = new Row(of.length - 1);
            BigInteger sum = BigInteger.ONE;
            for (int n = 1; n < of.length; n++) {
                r.of[n] = of[n].negate();
                sum = sum.add(of[n].abs());
            }
            r.degree = sum.subtract(degree).max(BigInteger.ZERO);
            return r;
        }

        /** values: 1, 0, or -1 for OPEN, from place 1 on. */
        BigInteger rest(int[] values) {
            BigInteger sum = degree.negate();
            for (int n = 1; n < of.length; n++) {
                boolean fallen = of[n].signum() > 0 ? values[n] == 0 : values[n] == 1;
                sum = fallen ? sum : sum.add(of[n].abs());
            }
            return sum;
        }

        boolean broken(int[] values) {
            return rest(values).signum() < 0;
        }

        /** The least VARIABLE whose LITERAL is FORCED, or 0. */
        int forced(int[] values) {
            BigInteger rest = rest(values);
            for (int n = 1; n < of.length; n++) {
                if (values[n] < 0 && of[n].abs().compareTo(rest) > 0 && of[n].signum() != 0) {
                    return n;
                }
            }
            return 0;
        }
    }

    final int v;
    final StringBuilder tape = new StringBuilder();
    List<Row> rows = new ArrayList<>();
    int faultKind;
    int faultPlace = -1;
    /** A test may set it higher, to see how long a PROOF would be. */
    int mostProof = 20000;

    PlainModel(int v) {
        this.v = v < 1 ? 1 : v > 16 ? 16 : v;
        none();
    }

    // ---- texts

    String text;
    int at;
    String token;
    int place;

    void next() {
        Matcher gap = GAP.matcher(text).region(at, text.length());
        gap.lookingAt();
        place = gap.end();
        if (place == text.length()) {
            token = "";
            return;
        }
        Matcher m = TOKEN.matcher(text).region(place, text.length());
        if (!m.lookingAt() || Character.isDigit(m.group().charAt(0)) && m.group().length() > 60) {
            token = "?";
            return;
        }
        token = m.group();
        at = m.end();
    }

    boolean isNumber() {
        return !token.isEmpty() && Character.isDigit(token.charAt(0));
    }

    boolean isLiteral() {
        return token.indexOf('x') >= 0;
    }

    int variableHere() {
        int n = Integer.parseInt(token.substring(token.indexOf('x') + 1));
        if (n < 1 || n > v) {
            throw new Fault(2, place);
        }
        return n;
    }

    void want(boolean good) {
        if (!good) {
            throw new Fault(1, place);
        }
    }

    BigInteger integer() {
        boolean minus = token.equals("-");
        if (minus || token.equals("+")) {
            next();
        }
        want(isNumber());
        BigInteger n = new BigInteger(token);
        next();
        return minus ? n.negate() : n;
    }

    BigInteger[] sums;
    BigInteger right;
    String relation;

    /** Up to the ; with sums of xN alone. */
    void condition(String relations) {
        sums = new Row(v).of;
        right = BigInteger.ZERO;
        while (isLiteral() || isNumber() || token.equals("+") || token.equals("-")) {
            BigInteger f = isLiteral() ? BigInteger.ONE : integer();
            want(isLiteral());
            int n = variableHere();
            if (token.startsWith("~")) {
                sums[n] = sums[n].subtract(f);
                right = right.subtract(f);
            } else {
                sums[n] = sums[n].add(f);
            }
            next();
        }
        want(!token.isEmpty() && relations.contains("|" + token + "|"));
        relation = token;
        next();
        right = right.add(integer());
        want(token.equals(";"));
    }

    Row rowOf(boolean turned) {
        Row r = new Row(v);
        BigInteger degree = turned ? right.negate() : right;
        for (int n = 1; n <= v; n++) {
            r.of[n] = turned ? sums[n].negate() : sums[n];
            degree = r.of[n].signum() < 0 ? degree.add(r.of[n].abs()) : degree;
        }
        r.degree = degree.max(BigInteger.ZERO);
        return r;
    }

    void open() {
        text = tape.toString();
        tape.setLength(0);
        at = 0;
        faultKind = 0;
        faultPlace = -1;
    }

    int load() {
        open();
        List<Row> made = new ArrayList<>();
        try {
            for (next(); !token.isEmpty(); next()) {
                condition("|>=|<=|=|");
                if (!relation.equals("<=")) {
                    made.add(rowOf(false));
                }
                if (!relation.equals(">=")) {
                    made.add(rowOf(true));
                }
                if (made.size() > 40) {
                    throw new Fault(5, place);
                }
            }
        } catch (Fault f) {
            faultKind = f.kind;
            faultPlace = f.place;
            return -1;
        }
        for (Row r : made) {
            r.origin = 1;
        }
        rows = made;
        none();
        return rows.size();
    }

    int check() {
        open();
        int done = 0;
        try {
            for (next(); !token.isEmpty(); next()) {
                step();
                done++;
            }
        } catch (Fault f) {
            faultKind = f.kind;
            faultPlace = f.place;
        }
        return done;
    }

    void step() {
        String word = token;
        want(word.equals("p") || word.equals("u") || word.equals("c"));
        next();
        if (word.equals("p")) {
            Row r = stacked();
            room();
            r.origin = 2;
            rows.add(r);
        } else if (word.equals("u")) {
            condition("|>=|");
            room();
            Row r = rowOf(false);
            if (!follows(r)) {
                throw new Fault(6, place);
            }
            r.origin = 3;
            rows.add(r);
        } else {
            want(isNumber());
            Row r = numbered(token, place);
            next();
            want(token.equals(";"));
            if (!r.broken(nothing())) {
                throw new Fault(6, place);
            }
        }
    }

    void room() {
        if (rows.size() >= 300) {
            throw new Fault(5, place);
        }
    }

    Row numbered(String number, int where) {
        BigInteger k = new BigInteger(number);
        if (k.signum() == 0 || k.compareTo(BigInteger.valueOf(rows.size())) > 0) {
            throw new Fault(2, where);
        }
        return rows.get(k.intValue() - 1);
    }

    List<Row> stack;

    void need(int n) {
        if (stack.size() < n) {
            throw new Fault(4, place);
        }
    }

    void push(Row r, int where) {
        if (stack.size() == 12) {
            throw new Fault(4, where);
        }
        stack.add(r.copy());
    }

    Row pop() {
        return stack.remove(stack.size() - 1);
    }

    void pushRoomy(Row r) {
        if (!r.fits()) {
            throw new Fault(5, place);
        }
        stack.add(r);
    }

    Row stacked() {
        stack = new ArrayList<>();
        while (!token.equals(";")) {
            String was = token;
            int where = place;
            if (isNumber()) {
                next();
                if (!token.equals("*") && !token.equals("d")) {
                    push(numbered(was, where), where);
                    continue;
                }
                BigInteger f = new BigInteger(was);
                if (f.signum() == 0) {
                    throw new Fault(3, where);
                }
                need(1);
                pushRoomy(token.equals("*") ? pop().times(f) : pop().divided(f));
            } else if (isLiteral()) {
                int n = variableHere();
                next();
                if (!token.equals("w")) {
                    Row r = new Row(v);
                    r.of[n] = was.startsWith("~") ? BigInteger.ONE.negate() : BigInteger.ONE;
                    push(r, where);
                    continue;
                }
                need(1);
                stack.add(pop().without(n));
            } else if (token.equals("+")) {
                need(2);
                pushRoomy(pop().plus(pop()));
            } else {
                want(token.equals("s"));
                need(1);
                stack.add(pop().cut());
            }
            next();
        }
        if (stack.size() != 1) {
            throw new Fault(4, place);
        }
        return pop();
    }

    int[] nothing() {
        int[] values = new int[v + 1];
        java.util.Arrays.fill(values, -1);
        return values;
    }

    boolean follows(Row r) {
        List<Row> all = new ArrayList<>(rows);
        all.add(r.opposite());
        int[] values = nothing();
        boolean more = true;
        while (more) {
            more = false;
            for (Row a : all) {
                if (a.broken(values)) {
                    return true;
                }
                int n = a.forced(values);
                if (n != 0) {
                    values[n] = a.of[n].signum() > 0 ? 1 : 0;
                    more = true;
                }
            }
        }
        return false;
    }

    // ---- the search

    static final class Entry {
        int n;
        boolean plain;
        int level;
        int line;
    }

    int state;
    int level;
    int choices;
    int learned;
    int acts;
    List<Entry> trail;
    boolean[] last;
    StringBuilder proof;

    void none() {
        state = 0;
        level = 0;
        choices = 0;
        learned = 0;
        acts = 0;
        trail = new ArrayList<>();
        last = new boolean[v + 1];
        proof = new StringBuilder();
    }

    boolean begin() {
        none();
        state = 1;
        return true;
    }

    int[] valuesOf(int size, int upTo) {
        int[] values = nothing();
        for (Entry e : trail.subList(0, size)) {
            if (e.level <= upTo) {
                values[e.n] = e.plain ? 1 : 0;
            }
        }
        return values;
    }

    int run(int n) {
        if (state == 0 || n < 0 || n > 500) {
            return -1;
        }
        int done = 0;
        while (done < n && state == 1) {
            acts++;
            done++;
            act();
        }
        return done;
    }

    void give(int n, boolean plain, int line) {
        Entry e = new Entry();
        e.n = n;
        e.plain = plain;
        e.level = level;
        e.line = line;
        trail.add(e);
        last[n] = plain;
    }

    void act() {
        int[] values = valuesOf(trail.size(), 99);
        for (int k = 1; k <= rows.size(); k++) {
            Row r = rows.get(k - 1);
            if (r.broken(values)) {
                try {
                    learn(k);
                } catch (Full f) {
                    state = 4;
                }
                return;
            }
            int n = r.forced(values);
            if (n != 0) {
                give(n, r.of[n].signum() > 0, k);
                return;
            }
        }
        for (int n = 1; n <= v; n++) {
            if (values[n] < 0) {
                level++;
                choices++;
                give(n, last[n], 0);
                return;
            }
        }
        state = 2;
    }

    int ready(Row k) {
        for (int j = 0; j < level; j++) {
            int[] values = valuesOf(trail.size(), j);
            if (k.broken(values) || k.forced(values) != 0) {
                return j;
            }
        }
        return -1;
    }

    static Row roomy(Row r) {
        if (!r.fits()) {
            throw new Full();
        }
        return r;
    }

    void learn(int number) {
        Row k = rows.get(number - 1);
        StringBuilder step = new StringBuilder("p " + number);
        int i = trail.size();
        while (level > 0 ? ready(k) < 0 : i > 0) {
            Entry l = trail.get(--i);
            if (k.of[l.n].signum() == 0 || k.of[l.n].signum() > 0 == l.plain) {
                continue;
            }
            BigInteger a = k.of[l.n].abs();
            Row r = rows.get(l.line - 1);
            step.append(" ").append(l.line);
            BigInteger c = r.of[l.n].abs();
            int[] ahead = valuesOf(i, 99);
            for (int n = 1; n <= v; n++) {
                boolean fallen = r.of[n].signum() > 0 ? ahead[n] == 0 : ahead[n] == 1;
                if (n != l.n && r.of[n].signum() != 0 && !fallen && r.of[n].abs().mod(c).signum() != 0) {
                    r = r.without(n);
                    step.append(" x").append(n).append(" w");
                }
            }
            if (!c.equals(BigInteger.ONE)) {
                r = r.divided(c);
                step.append(" ").append(c).append(" d");
            }
            r = r.cut();
            step.append(" s");
            if (!a.equals(BigInteger.ONE)) {
                r = roomy(r.times(a));
                step.append(" ").append(a).append(" *");
            }
            k = roomy(k.plus(r)).cut();
            step.append(" + s");
        }
        step.append(" ;\n");
        if (level == 0) {
            step.append("c ").append(rows.size() + 1).append(" ;\n");
        }
        if (rows.size() >= 300 || proof.length() + step.length() > mostProof) {
            throw new Full();
        }
        proof.append(step);
        if (level == 0) {
            if (!k.broken(nothing())) {
                throw new IllegalStateException("a LINE of LEVEL 0 that is not FALSE");
            }
            state = 3;
        } else {
            int j = ready(k);
            trail.removeIf(e -> e.level > j);
            level = j;
        }
        k = k.copy();
        k.origin = 4;
        rows.add(k);
        learned++;
    }

    // ---- the rest of the face

    int answer(int... c) {
        switch (c[0]) {
            case Bench.FEED: return feed(c[1], c[2], c[3], c[4], c[5]);
            case Bench.BACK: return back(c[1]);
            case Bench.LOAD: return load();
            case Bench.CHECK: return check();
            case Bench.FAULT: return fault(c[1]);
            case Bench.LITERAL: return literal(c[1], c[2]);
            case Bench.PIECE: return piece(c[1], c[2], c[3]);
            case Bench.HOLDS: return holds(c[1], c[2]) ? 1 : 0;
            case Bench.ORIGIN: return origin(c[1]);
            case Bench.BEGIN: return begin() ? 1 : 0;
            case Bench.RUN: return run(c[1]);
            case Bench.VALUE: return value(c[1]);
            case Bench.TRAIL: return trail(c[1], c[2]);
            case Bench.PROOF: return proof(c[1]);
            case Bench.COUNT: return count(c[1]);
            default: throw new IllegalArgumentException("no such call");
        }
    }

    int feed(int a, int b, int c, int d, int e) {
        if (tape.length() + 20 > 4000) {
            return -1;
        }
        for (int word : new int[] {a, b, c, d, e}) {
            for (int shift = 24; shift >= 0; shift -= 8) {
                tape.append((char) (word >>> shift & 255));
            }
        }
        return tape.length();
    }

    int back(int n) {
        if (n < 0 || n > tape.length()) {
            return -1;
        }
        tape.setLength(tape.length() - n);
        return tape.length();
    }

    int fault(int what) {
        return what == 0 ? faultKind : what == 1 ? faultPlace : -1;
    }

    boolean isLine(int k) {
        return k >= 1 && k <= rows.size();
    }

    int literal(int k, int n) {
        return isLine(k) && n >= 1 && n <= v ? rows.get(k - 1).of[n].signum() : -1;
    }

    int piece(int k, int n, int i) {
        if (!isLine(k) || n < 0 || n > v || i < 0 || i > 7) {
            return 0;
        }
        Row r = rows.get(k - 1);
        return (n == 0 ? r.degree : r.of[n].abs()).shiftRight(32 * i).intValue();
    }

    boolean holds(int k, int mask) {
        if (!isLine(k)) {
            return false;
        }
        int[] values = nothing();
        for (int n = 1; n <= v; n++) {
            values[n] = mask >>> (n - 1) & 1;
        }
        return !rows.get(k - 1).broken(values);
    }

    int origin(int k) {
        return isLine(k) ? rows.get(k - 1).origin : 0;
    }

    int value(int n) {
        return n < 1 || n > v ? -1 : valuesOf(trail.size(), 99)[n];
    }

    int trail(int i, int what) {
        if (i < 0 || i >= trail.size()) {
            return 0;
        }
        Entry e = trail.get(i);
        return what == 0 ? (e.plain ? e.n : -e.n) : what == 1 ? e.level : what == 2 ? e.line : 0;
    }

    int proof(int i) {
        return i < 0 || i >= proof.length() ? -1 : proof.charAt(i);
    }

    int count(int what) {
        switch (what) {
            case 0: return rows.size();
            case 1: return (int) rows.stream().filter(r -> r.origin == 1).count();
            case 2: return proof.length();
            case 3: return state;
            case 4: return trail.size();
            case 5: return level;
            case 6: return choices;
            case 7: return learned;
            case 8: return acts;
            case 9: return (int) rows.stream().filter(r -> r.broken(nothing())).count();
            case 10: return tape.length();
            default: return -1;
        }
    }
}
