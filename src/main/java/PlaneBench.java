import java.util.Arrays;

/** A bench for LINES of weighted truths: a reader, a checker of STEPS, and a search that writes its PROOF. */
public final class PlaneBench {
    public static final int NONE = -1;

    private static final int MOST_VARIABLES = 16;
    private static final int MOST_TAPE = 4000;
    private static final int MOST_PROOF = 20000;
    private static final int MOST_LINES = 300;
    private static final int MOST_PROBLEM_LINES = 40;
    private static final int MOST_STACK = 12;
    private static final int MOST_DIGITS = 60;
    private static final int MOST_ACTS = 500;
    private static final int FED_BYTES = 20;

    private static final int FAULT_FORM = 1;
    private static final int FAULT_NAME = 2;
    private static final int FAULT_ZERO = 3;
    private static final int FAULT_STACK = 4;
    private static final int FAULT_ROOM = 5;
    private static final int FAULT_CLAIM = 6;

    private static final int OF_PROBLEM = 1;
    private static final int OF_P = 2;
    private static final int OF_U = 3;
    private static final int LEARNED = 4;

    private final int variables;
    private final ByteRow tape;
    private final Shelf shelf;
    private final TextReader text;
    private final Problem problem;
    private final Checker checker;
    private final Search search;

    public PlaneBench(int v) {
        int most = Math.max(1, Math.min(MOST_VARIABLES, v));
        Shelf lines = new Shelf(most);
        TextReader reader = new TextReader();
        Condition condition = new Condition(reader, most);
        variables = most;
        tape = new ByteRow(MOST_TAPE);
        shelf = lines;
        text = reader;
        problem = new Problem(reader, condition, most);
        checker = new Checker(reader, condition, lines);
        search = new Search(lines);
    }

    public int feed(int a, int b, int c, int d, int e) {
        if (tape.size > MOST_TAPE - FED_BYTES) {
            return NONE;
        }
        tape.addWord(a);
        tape.addWord(b);
        tape.addWord(c);
        tape.addWord(d);
        tape.addWord(e);
        return tape.size;
    }

    public int back(int n) {
        if (n < 0 || n > tape.size) {
            return NONE;
        }
        tape.keep(tape.size - n);
        return tape.size;
    }

    public int load() {
        text.open(tape);
        boolean good = problem.read();
        tape.keep(0);
        if (!good) {
            return NONE;
        }
        shelf.replaceBy(problem.drafts, problem.made);
        search.forget();
        return shelf.size;
    }

    public int check() {
        text.open(tape);
        int done = checker.takeSteps();
        tape.keep(0);
        return done;
    }

    public int fault(int what) {
        switch (what) {
            case 0:
                return text.faultKind;
            case 1:
                return text.faultPlace;
            default:
                return NONE;
        }
    }

    public int literal(int k, int v) {
        Line line = shelf.line(k);
        if (line == null || v < 1 || v > variables) {
            return NONE;
        }
        return line.signOf(v);
    }

    public int piece(int k, int v, int i) {
        Line line = shelf.line(k);
        if (line == null || v < 0 || v > variables || i < 0 || i >= Wide.WORDS) {
            return 0;
        }
        return line.words[v * Wide.WORDS + i];
    }

    public boolean holds(int k, int mask) {
        Line line = shelf.line(k);
        return line != null && line.look(mask, ~mask, shelf.rest) != Line.BROKEN;
    }

    public int origin(int k) {
        Line line = shelf.line(k);
        return line == null ? 0 : line.source;
    }

    public boolean begin() {
        search.start();
        return true;
    }

    public int run(int n) {
        if (search.state == Search.ABSENT || n < 0 || n > MOST_ACTS) {
            return NONE;
        }
        int done = 0;
        while (done < n && search.state == Search.GOING) {
            search.act();
            done++;
        }
        return done;
    }

    public int value(int v) {
        if (v < 1 || v > variables) {
            return NONE;
        }
        return search.path.valueOf(v);
    }

    public int trail(int i, int what) {
        if (i < 0 || i >= search.path.size) {
            return 0;
        }
        switch (what) {
            case 0:
                return search.path.literals[i];
            case 1:
                return search.path.levels[i];
            case 2:
                return search.path.reasons[i];
            default:
                return 0;
        }
    }

    public int proof(int i) {
        return search.written.byteAt(i);
    }

    public int count(int what) {
        switch (what) {
            case 0:
                return shelf.size;
            case 1:
                return shelf.ofProblem;
            case 2:
                return search.written.size;
            case 3:
                return search.state;
            case 4:
                return search.path.size;
            case 5:
                return search.level;
            case 6:
                return search.choices;
            case 7:
                return search.learned;
            case 8:
                return search.acts;
            case 9:
                return shelf.falseLines;
            case 10:
                return tape.size;
            default:
                return NONE;
        }
    }

    /** Bytes in a row that grows as it is filled, so that an object that is hardly used stays small. */
    private static final class ByteRow {
        private static final int FIRST_CELLS = 160;

        final int limit;
        byte[] cells = new byte[FIRST_CELLS];
        int size;
        boolean overflowed;

        ByteRow(int limit) {
            this.limit = limit;
        }

        void add(int b) {
            if (size >= limit) {
                overflowed = true;
                return;
            }
            if (size >= cells.length) {
                cells = Arrays.copyOf(cells, Math.min(limit, cells.length * 2));
            }
            cells[size] = (byte) b;
            size++;
        }

        void addWord(int word) {
            for (int shift = 24; shift >= 0; shift -= 8) {
                add(word >>> shift);
            }
        }

        /** Writes the number, which is 0 afterwards. */
        void addNumber(int[] number) {
            int first = size;
            int width = Math.max(1, Wide.width(number, 0));
            for (int i = 0; i < MOST_DIGITS * 2 && width > 0; i++) {
                add('0' + Wide.tenth(number, width));
                width = Wide.width(number, 0);
            }
            reverseFrom(first);
        }

        void addSmall(int n) {
            int first = size;
            int left = n;
            do {
                add('0' + left % 10);
                left /= 10;
            } while (left > 0);
            reverseFrom(first);
        }

        void addBlankAnd(int b) {
            add(' ');
            add(b);
        }

        private void reverseFrom(int first) {
            int low = first;
            int high = size - 1;
            while (low < high) {
                byte b = cells[low];
                cells[low] = cells[high];
                cells[high] = b;
                low++;
                high--;
            }
        }

        void keep(int n) {
            size = n;
            overflowed = false;
        }

        int byteAt(int i) {
            return i < 0 || i >= size ? NONE : cells[i] & 255;
        }
    }

    /** Arithmetic on numbers of 256 bits: eight words, the lowest first, from a place in a row on. */
    private static final class Wide {
        static final int WORDS = 8;
        static final long LOW = 0xFFFFFFFFL;

        /** Answers what is carried out of the highest word. */
        static int add(int[] a, int i, int[] b, int j, int width) {
            long sum = 0;
            for (int w = 0; w < width; w++) {
                sum += (a[i + w] & LOW) + (b[j + w] & LOW);
                a[i + w] = (int) sum;
                sum >>>= 32;
            }
            return (int) sum;
        }

        /** Answers 1 if b was greater: a then lacks what the highest word would have borrowed. */
        static int subtract(int[] a, int i, int[] b, int j, int width) {
            long left = 0;
            for (int w = 0; w < width; w++) {
                left += (a[i + w] & LOW) - (b[j + w] & LOW);
                a[i + w] = (int) left;
                left >>= 32;
            }
            return left < 0 ? 1 : 0;
        }

        static void negate(int[] a, int i) {
            long sum = 1;
            for (int w = 0; w < WORDS; w++) {
                sum += ~a[i + w] & LOW;
                a[i + w] = (int) sum;
                sum >>>= 32;
            }
        }

        static int compare(int[] a, int i, int[] b, int j, int width) {
            for (int w = width - 1; w >= 0; w--) {
                if (a[i + w] != b[j + w]) {
                    return (a[i + w] & LOW) < (b[j + w] & LOW) ? -1 : 1;
                }
            }
            return 0;
        }

        /** How many words there are up to the highest that is not 0. */
        static int width(int[] a, int i) {
            int w = WORDS;
            while (w > 0 && a[i + w - 1] == 0) {
                w--;
            }
            return w;
        }

        static void copy(int[] a, int i, int[] b, int j) {
            System.arraycopy(b, j, a, i, WORDS);
        }

        static void setSmall(int[] a, int i, int n) {
            for (int w = 0; w < WORDS; w++) {
                a[i + w] = w == 0 ? n : 0;
            }
        }

        /** The number, or NONE if an int does not take it. */
        static int small(int[] a) {
            return width(a, 0) > 1 || a[0] < 0 ? NONE : a[0];
        }

        /** Divides the number at the row's beginning by ten and answers the last digit. */
        static int tenth(int[] a, int width) {
            long left = 0;
            for (int w = width - 1; w >= 0; w--) {
                left = (left << 32) + (a[w] & LOW);
                a[w] = (int) (left / 10);
                left %= 10;
            }
            return (int) left;
        }

        static void appendDigit(int[] a, int digit) {
            long sum = digit;
            for (int w = 0; w < WORDS; w++) {
                sum += (a[w] & LOW) * 10;
                a[w] = (int) sum;
                sum >>>= 32;
            }
        }

        /** product has 16 words. */
        static void multiply(int[] a, int i, int width, int[] factor, int factorWidth, int[] product) {
            Arrays.fill(product, 0);
            for (int u = 0; u < width; u++) {
                long one = a[i + u] & LOW;
                long sum = 0;
                for (int w = 0; w < factorWidth; w++) {
                    sum += one * (factor[w] & LOW) + (product[u + w] & LOW);
                    product[u + w] = (int) sum;
                    sum >>>= 32;
                }
                product[u + factorWidth] = (int) sum;
            }
        }
    }

    /** Long division by one number after another: the divisor is kept with its highest bit at a word's top. */
    private static final class Divider {
        /** Turned over in both, it makes a comparison of longs one of numbers without sign. */
        private static final long SIGN = 1L << 63;

        final int[] divisor = new int[Wide.WORDS];
        final int[] left = new int[Wide.WORDS + 1];
        final int[] quotient = new int[Wide.WORDS];
        int width;
        int shift;

        /** number must not be 0. */
        void take(int[] number) {
            width = Wide.width(number, 0);
            shift = width == 0 ? 0 : Integer.numberOfLeadingZeros(number[width - 1]);
            long sum = 0;
            for (int w = 0; w < Wide.WORDS; w++) {
                sum += (number[w] & Wide.LOW) << shift;
                divisor[w] = (int) sum;
                sum >>>= 32;
            }
        }

        /** Divides: afterwards quotient has the whole part. Answers whether there is more. */
        boolean split(int[] a, int i) {
            Arrays.fill(quotient, 0);
            long sum = 0;
            for (int w = 0; w < Wide.WORDS; w++) {
                sum += (a[i + w] & Wide.LOW) << shift;
                left[w] = (int) sum;
                sum >>>= 32;
            }
            left[Wide.WORDS] = (int) sum;
            if (width == 0) {
                return false;
            }
            for (int place = Wide.width(a, i) - width; place >= 0; place--) {
                quotient[place] = takeOff(place, guess(place));
            }
            return somethingLeft();
        }

        private boolean somethingLeft() {
            int bits = 0;
            for (int w = 0; w <= Wide.WORDS; w++) {
                bits |= left[w];
            }
            return bits != 0;
        }

        /** The quotient's word at this place, or 1 more than it. */
        private long guess(int place) {
            long high = divisor[width - 1] & Wide.LOW;
            if (high == 0) {
                return 0;
            }
            long next = width > 1 ? divisor[width - 2] & Wide.LOW : 0;
            long below = width > 1 ? left[place + width - 2] & Wide.LOW : 0;
            long two = (left[place + width] & Wide.LOW) << 32 | left[place + width - 1] & Wide.LOW;
            // Halved, the dividend is not below 0 as a long; what that loses is 1 at most.
            long word = (two >>> 1) / high << 1;
            long over = two - word * high;
            if (over >= high) {
                word++;
                over -= high;
            }
            for (int i = 0; i < 3 && over <= Wide.LOW; i++) {
                if (word <= Wide.LOW && (word * next ^ SIGN) <= ((over << 32 | below) ^ SIGN)) {
                    break;
                }
                word--;
                over += high;
            }
            return word;
        }

        /** Takes the divisor off as many times, but for one that was too many; answers how many. */
        private int takeOff(int place, long word) {
            long product = 0;
            long rest = 0;
            for (int w = 0; w <= width; w++) {
                product += w < width ? word * (divisor[w] & Wide.LOW) : 0;
                rest += (left[place + w] & Wide.LOW) - (product & Wide.LOW);
                left[place + w] = (int) rest;
                product >>>= 32;
                rest >>= 32;
            }
            if (rest >= 0) {
                return (int) word;
            }
            long sum = 0;
            for (int w = 0; w <= width; w++) {
                sum += (left[place + w] & Wide.LOW) + (w < width ? divisor[w] & Wide.LOW : 0);
                left[place + w] = (int) sum;
                sum >>>= 32;
            }
            return (int) (word - 1);
        }

        void putRoundedUp(int[] a, int i, boolean more) {
            long sum = more ? 1 : 0;
            for (int w = 0; w < Wide.WORDS; w++) {
                sum += quotient[w] & Wide.LOW;
                a[i + w] = (int) sum;
                sum >>>= 32;
            }
        }
    }

    /** A LINE: number 0 is the DEGREE, number N the COEFFICIENT of the VARIABLE N. */
    private static final class Line {
        static final int BROKEN = -1;

        final int variables;
        final int[] words;
        /** Bit N - 1: xN stands in it; in negated: ~xN does. */
        int plain;
        int negated;
        /** From this word on all numbers are 0, which makes LINES of small numbers cheap. */
        int width;
        int source;
        /** An ASSIGNMENT by which it was not BROKEN and FORCED nothing: look() says what follows from that. */
        boolean calm;
        int calmFallen;
        int calmOpen;

        Line(int variables) {
            this.variables = variables;
            words = new int[(variables + 1) * Wide.WORDS];
        }

        int signOf(int variable) {
            int bit = 1 << (variable - 1);
            if ((plain & bit) != 0) {
                return 1;
            }
            return (negated & bit) != 0 ? -1 : 0;
        }

        boolean has(int variable) {
            return ((plain | negated) & 1 << (variable - 1)) != 0;
        }

        void copyFrom(Line other) {
            System.arraycopy(other.words, 0, words, 0, Math.min(words.length, other.words.length));
            plain = other.plain;
            negated = other.negated;
            width = other.width;
            calm = false;
        }

        private void setSign(int variable, int sign) {
            int bit = 1 << (variable - 1);
            plain = sign > 0 ? plain | bit : plain & ~bit;
            negated = sign < 0 ? negated | bit : negated & ~bit;
        }

        private void settle(int bound) {
            calm = false;
            width = bound;
            while (width > 0 && topIsEmpty()) {
                width--;
            }
        }

        private boolean topIsEmpty() {
            for (int at = width - 1; at < words.length; at += Wide.WORDS) {
                if (words[at] != 0) {
                    return false;
                }
            }
            return true;
        }

        void setLiteral(int variable, int sign) {
            Arrays.fill(words, 0);
            plain = 0;
            negated = 0;
            words[variable * Wide.WORDS] = 1;
            setSign(variable, sign);
            settle(1);
        }

        /** The LINE of sums of xN, with signs, that come to number 0 of them or more; all turned: or less. */
        void setSums(int[] sums, boolean turned) {
            System.arraycopy(sums, 0, words, 0, Math.min(words.length, sums.length));
            plain = 0;
            negated = 0;
            for (int n = 0; n <= variables && turned; n++) {
                Wide.negate(words, n * Wide.WORDS);
            }
            for (int n = 1; n <= variables; n++) {
                int at = n * Wide.WORDS;
                if (words[at + Wide.WORDS - 1] < 0) {
                    Wide.negate(words, at);
                    Wide.add(words, 0, words, at, Wide.WORDS);
                    setSign(n, -1);
                } else if (Wide.width(words, at) > 0) {
                    setSign(n, 1);
                }
            }
            if (words[Wide.WORDS - 1] < 0) {
                Wide.setSmall(words, 0, 0);
            }
            settle(Wide.WORDS);
        }

        void setOpposite(Line other) {
            copyFrom(other);
            plain = other.negated;
            negated = other.plain;
            Wide.setSmall(words, 0, 1);
            for (int n = 1; n <= variables; n++) {
                Wide.add(words, 0, words, n * Wide.WORDS, Wide.WORDS);
            }
            takeOffDegree(other.words, 0, 0, Wide.WORDS);
            settle(Wide.WORDS);
        }

        /** The DEGREE has over as a ninth word: answers what that is afterwards. */
        private int takeOffDegree(int[] from, int at, int over, int bound) {
            int top = over - Wide.subtract(words, 0, from, at, bound);
            if (top < 0) {
                Wide.setSmall(words, 0, 0);
                return 0;
            }
            return top;
        }

        /** Answers whether there was ROOM. */
        boolean add(Line other) {
            int bound = Math.min(Wide.WORDS, Math.max(width, other.width) + 1);
            int over = Wide.add(words, 0, other.words, 0, bound);
            boolean room = true;
            for (int n = 1; n <= variables; n++) {
                int sign = other.signOf(n);
                int at = n * Wide.WORDS;
                if (sign == 0) {
                    continue;
                }
                if (signOf(n) == -sign) {
                    over = cancel(other, n, over, bound);
                } else {
                    room = Wide.add(words, at, other.words, at, bound) == 0 && room;
                    setSign(n, sign);
                }
            }
            settle(bound);
            return room && over == 0;
        }

        /** Both LITERALS of the VARIABLE stand: answers the DEGREE's ninth word. */
        private int cancel(Line other, int variable, int over, int bound) {
            int at = variable * Wide.WORDS;
            int order = Wide.compare(words, at, other.words, at, bound);
            int top;
            if (order >= 0) {
                top = takeOffDegree(other.words, at, over, bound);
                Wide.subtract(words, at, other.words, at, bound);
            } else {
                top = takeOffDegree(words, at, over, bound);
                Wide.subtract(words, at, other.words, at, Wide.WORDS);
                Wide.negate(words, at);
                setSign(variable, other.signOf(variable));
            }
            if (order == 0) {
                setSign(variable, 0);
            }
            return top;
        }

        /** Answers whether there was ROOM; product has 16 words. */
        boolean multiply(int[] factor, int[] product) {
            int factorWidth = Wide.width(factor, 0);
            boolean room = true;
            for (int n = 0; n <= variables; n++) {
                if (n == 0 || has(n)) {
                    Wide.multiply(words, n * Wide.WORDS, width, factor, factorWidth, product);
                    room = room && Wide.width(product, Wide.WORDS) == 0;
                    Wide.copy(words, n * Wide.WORDS, product, 0);
                }
            }
            settle(Wide.WORDS);
            return room;
        }

        void divide(Divider divider) {
            for (int n = 0; n <= variables; n++) {
                if (n == 0 || has(n)) {
                    boolean more = divider.split(words, n * Wide.WORDS);
                    divider.putRoundedUp(words, n * Wide.WORDS, more);
                }
            }
            settle(width);
        }

        void cut() {
            boolean nothing = Wide.width(words, 0) == 0;
            for (int n = 1; n <= variables; n++) {
                int at = n * Wide.WORDS;
                if (!has(n) || Wide.compare(words, at, words, 0, width) <= 0) {
                    continue;
                }
                Wide.copy(words, at, words, 0);
                if (nothing) {
                    setSign(n, 0);
                }
            }
            settle(width);
        }

        void without(int variable) {
            if (has(variable)) {
                takeOffDegree(words, variable * Wide.WORDS, 0, width);
                Wide.setSmall(words, variable * Wide.WORDS, 0);
                setSign(variable, 0);
                settle(width);
            }
        }

        boolean isFalse(int[] rest) {
            return look(0, 0, rest) == BROKEN;
        }

        /** BROKEN, or the VARIABLES, as bits, whose LITERALS it FORCES; rest has eight words to work in. */
        int look(int trueBits, int falseBits, int[] rest) {
            int all = plain | negated;
            int fallen = plain & falseBits | negated & trueBits;
            int open = all & ~(trueBits | falseBits);
            // Fewer false LITERALS make the REST greater, by as much as each that is OPEN again asks for.
            if (calm && (fallen & ~calmFallen) == 0 && (open & ~(calmFallen | calmOpen)) == 0) {
                return 0;
            }
            long top = findRest(all & ~fallen, rest);
            if (top < 0) {
                return BROKEN;
            }
            int forced = top > 0 ? 0 : findAbove(open, rest);
            if (forced == 0) {
                calm = true;
                calmFallen = fallen;
                calmOpen = open;
            }
            return forced;
        }

        /** The COEFFICIENTS of these VARIABLES less the DEGREE; answers what goes beyond the width. */
        private long findRest(int bits, int[] rest) {
            long sum = 0;
            for (int w = 0; w < width; w++) {
                sum -= words[w] & Wide.LOW;
                for (int n = 1; n <= variables; n++) {
                    if ((bits & 1 << (n - 1)) != 0) {
                        sum += words[n * Wide.WORDS + w] & Wide.LOW;
                    }
                }
                rest[w] = (int) sum;
                sum >>= 32;
            }
            return sum;
        }

        private int findAbove(int bits, int[] rest) {
            int above = 0;
            for (int n = 1; n <= variables; n++) {
                int bit = 1 << (n - 1);
                if ((bits & bit) != 0 && Wide.compare(words, n * Wide.WORDS, rest, 0, width) > 0) {
                    above |= bit;
                }
            }
            return above;
        }
    }

    /** All LINES; those that a load() takes away stay as rows for later ones. */
    private static final class Shelf {
        final int variables;
        final int[] rest = new int[Wide.WORDS];
        int size;
        int ofProblem;
        int falseLines;
        private final Line[] lines = new Line[MOST_LINES];

        Shelf(int variables) {
            this.variables = variables;
        }

        Line line(int k) {
            return k < 1 || k > size || k > lines.length ? null : lines[k - 1];
        }

        boolean isFull() {
            return size >= MOST_LINES;
        }

        void add(Line made, int source) {
            if (isFull()) {
                return;
            }
            if (lines[size] == null) {
                lines[size] = new Line(variables);
            }
            Line line = lines[size];
            line.copyFrom(made);
            line.source = source;
            size++;
            falseLines += line.look(0, 0, rest) == Line.BROKEN ? 1 : 0;
        }

        void replaceBy(Line[] drafts, int made) {
            size = 0;
            ofProblem = 0;
            falseLines = 0;
            for (int i = 0; i < made && i < drafts.length && i < lines.length; i++) {
                Line draft = drafts[i];
                if (draft == null) {
                    return;
                }
                drafts[i] = lines[i];
                lines[i] = draft;
                draft.source = OF_PROBLEM;
                size++;
                ofProblem++;
                falseLines += draft.look(0, 0, rest) == Line.BROKEN ? 1 : 0;
            }
        }
    }

    /** Takes TOKENS from a text, one by one, and keeps the FAULT that was found. */
    private static final class TextReader {
        static final int END = 0;
        static final int NO_TOKEN = 1;
        static final int NUMBER = '0';
        static final int LITERAL = 'x';
        static final int AT_LEAST = '>';
        static final int AT_MOST = '<';

        private byte[] cells;
        int length;
        /** Of the present TOKEN: a sign or word of one byte is its own kind. */
        int kind;
        int start;
        int end;
        int variable;
        int sign;
        int faultKind;
        int faultPlace = NONE;

        void open(ByteRow row) {
            cells = row.cells;
            length = Math.min(row.size, row.cells.length);
            end = 0;
            faultKind = 0;
            faultPlace = NONE;
            next();
        }

        boolean refuse(int fault, int place) {
            faultKind = fault;
            faultPlace = place;
            return false;
        }

        boolean refuseHere(int fault) {
            return refuse(fault, start);
        }

        boolean expect(int wanted) {
            return kind == wanted || refuseHere(FAULT_FORM);
        }

        boolean knowsVariable(int variables) {
            return variable >= 1 && variable <= variables;
        }

        private int byteAt(int i) {
            return cells == null || i < 0 || i >= length ? NONE : cells[i] & 255;
        }

        void next() {
            start = afterBlanks(end);
            int b = byteAt(start);
            end = start + 1;
            if (b == NONE) {
                kind = END;
                end = start;
            } else if (isDigit(b)) {
                takeDigits();
            } else if (b == 'x') {
                takeLiteral(start + 1, 1);
            } else if (b == '~' && byteAt(end) == 'x') {
                takeLiteral(start + 2, -1);
            } else if (b == '>' || b == '<') {
                kind = byteAt(end) == '=' ? b : NO_TOKEN;
                end++;
            } else {
                kind = isSignOrWord(b) ? b : NO_TOKEN;
            }
        }

        private int afterBlanks(int from) {
            boolean note = false;
            for (int i = from; i < length; i++) {
                int b = byteAt(i);
                if (b == '#') {
                    note = true;
                } else if (!isBlank(b) && !(note && isPrinted(b))) {
                    return i;
                } else if (b == '\n') {
                    note = false;
                }
            }
            return length;
        }

        private static boolean isBlank(int b) {
            return b == ' ' || b == '\n' || b == '\t';
        }

        private static boolean isPrinted(int b) {
            return b >= 32 && b <= 126;
        }

        private static boolean isDigit(int b) {
            return b >= '0' && b <= '9';
        }

        private static boolean isSignOrWord(int b) {
            switch (b) {
                case '+':
                case '-':
                case '*':
                case ';':
                case '=':
                case 'p':
                case 'u':
                case 'c':
                case 'd':
                case 's':
                case 'w':
                    return true;
                default:
                    return false;
            }
        }

        private void takeDigits() {
            while (end < length && isDigit(byteAt(end))) {
                end++;
            }
            kind = end - start <= MOST_DIGITS ? NUMBER : NO_TOKEN;
        }

        private void takeLiteral(int digits, int itsSign) {
            int first = byteAt(digits);
            int second = byteAt(digits + 1);
            if (!isDigit(first)) {
                kind = NO_TOKEN;
                return;
            }
            kind = LITERAL;
            sign = itsSign;
            variable = first - '0';
            end = digits + 1;
            if (isDigit(second)) {
                variable = variable * 10 + second - '0';
                end = digits + 2;
            }
        }

        /** The value of the NUMBER that is the present TOKEN. */
        void readNumber(int[] number) {
            Arrays.fill(number, 0);
            for (int i = start; i < end; i++) {
                Wide.appendDigit(number, byteAt(i) - '0');
            }
        }
    }

    /** SUM, relation and INT, as PROBLEMS and a u have them: sums of xN at number N, at number 0 the right side. */
    private static final class Condition {
        final TextReader text;
        final int variables;
        final int[] sums;
        final int[] number = new int[Wide.WORDS];
        int relation;

        Condition(TextReader text, int variables) {
            this.text = text;
            this.variables = variables;
            sums = new int[(variables + 1) * Wide.WORDS];
        }

        /** Reads up to the ; which is the present TOKEN then. */
        boolean read(boolean anyRelation) {
            Arrays.fill(sums, 0);
            for (int i = 0; i <= text.length && beginsTerm(); i++) {
                if (!readFactor() || !addLiteral()) {
                    return false;
                }
            }
            relation = text.kind;
            if (relation != TextReader.AT_LEAST && !(anyRelation && isOtherRelation())) {
                return text.refuseHere(FAULT_FORM);
            }
            text.next();
            if (text.kind == TextReader.LITERAL) {
                return text.refuseHere(FAULT_FORM);
            }
            if (!readFactor()) {
                return false;
            }
            Wide.add(sums, 0, number, 0, Wide.WORDS);
            return text.expect(';');
        }

        private boolean isOtherRelation() {
            return relation == TextReader.AT_MOST || relation == '=';
        }

        private boolean beginsTerm() {
            return text.kind == TextReader.LITERAL || text.kind == TextReader.NUMBER
                || text.kind == '+' || text.kind == '-';
        }

        private boolean readFactor() {
            if (text.kind == TextReader.LITERAL) {
                Wide.setSmall(number, 0, 1);
                return true;
            }
            boolean below = text.kind == '-';
            if (below || text.kind == '+') {
                text.next();
            }
            if (!text.expect(TextReader.NUMBER)) {
                return false;
            }
            text.readNumber(number);
            if (below) {
                Wide.negate(number, 0);
            }
            text.next();
            return true;
        }

        private boolean addLiteral() {
            if (!text.expect(TextReader.LITERAL)) {
                return false;
            }
            if (!text.knowsVariable(variables)) {
                return text.refuseHere(FAULT_NAME);
            }
            int at = text.variable * Wide.WORDS;
            if (text.sign > 0) {
                Wide.add(sums, at, number, 0, Wide.WORDS);
            } else {
                Wide.subtract(sums, at, number, 0, Wide.WORDS);
                Wide.subtract(sums, 0, number, 0, Wide.WORDS);
            }
            text.next();
            return true;
        }
    }

    /** Reads a PROBLEM into drafts, so that one with a FAULT leaves the LINES as they are. */
    private static final class Problem {
        final TextReader text;
        final Condition condition;
        final int variables;
        final Line[] drafts = new Line[MOST_PROBLEM_LINES];
        int made;

        Problem(TextReader text, Condition condition, int variables) {
            this.text = text;
            this.condition = condition;
            this.variables = variables;
        }

        boolean read() {
            made = 0;
            for (int i = 0; i <= text.length && text.kind != TextReader.END; i++) {
                if (!condition.read(true) || !makeLines()) {
                    return false;
                }
                text.next();
            }
            return true;
        }

        private boolean makeLines() {
            int relation = condition.relation;
            if (relation != TextReader.AT_MOST && !makeLine(false)) {
                return false;
            }
            return relation == TextReader.AT_LEAST || makeLine(true);
        }

        private boolean makeLine(boolean turned) {
            if (made >= drafts.length) {
                return text.refuseHere(FAULT_ROOM);
            }
            if (drafts[made] == null) {
                drafts[made] = new Line(variables);
            }
            drafts[made].setSums(condition.sums, turned);
            made++;
            return true;
        }
    }

    /** Takes STEPS; it has the LINES and nothing of the search. */
    private static final class Checker {
        final TextReader text;
        final Condition condition;
        final Shelf shelf;
        final Line[] stack = new Line[MOST_STACK];
        final Line opposite;
        final Divider divider = new Divider();
        final int[] number = new int[Wide.WORDS];
        final int[] product = new int[2 * Wide.WORDS];
        int height;

        Checker(TextReader text, Condition condition, Shelf shelf) {
            this.text = text;
            this.condition = condition;
            this.shelf = shelf;
            opposite = new Line(shelf.variables);
            for (int i = 0; i < stack.length; i++) {
                stack[i] = new Line(shelf.variables);
            }
        }

        int takeSteps() {
            int done = 0;
            while (done <= text.length && text.kind != TextReader.END) {
                boolean good;
                switch (text.kind) {
                    case 'p':
                        good = takeItems();
                        break;
                    case 'u':
                        good = takeForced();
                        break;
                    case 'c':
                        good = takeClaim();
                        break;
                    default:
                        good = text.refuseHere(FAULT_FORM);
                        break;
                }
                if (!good) {
                    return done;
                }
                done++;
                text.next();
            }
            return done;
        }

        private boolean takeItems() {
            text.next();
            height = 0;
            boolean good = true;
            for (int i = 0; good && i <= text.length && text.kind != ';'; i++) {
                switch (text.kind) {
                    case TextReader.NUMBER:
                        good = takeNumber();
                        break;
                    case TextReader.LITERAL:
                        good = takeLiteral();
                        break;
                    case '+':
                        good = addUppermost();
                        break;
                    case 's':
                        good = cutUppermost();
                        break;
                    default:
                        good = text.refuseHere(FAULT_FORM);
                        break;
                }
            }
            if (good && height != 1) {
                return text.refuseHere(FAULT_STACK);
            }
            return good && addLine(OF_P);
        }

        /** The lowest LINE of the STACK is what the STEP made. */
        private boolean addLine(int source) {
            if (shelf.isFull()) {
                return text.refuseHere(FAULT_ROOM);
            }
            shelf.add(stack[0], source);
            return true;
        }

        private Line uppermost() {
            return height < 1 || height > stack.length ? null : stack[height - 1];
        }

        /** A free LINE on the STACK, or null. */
        private Line raise() {
            if (height >= stack.length) {
                return null;
            }
            height++;
            return stack[height - 1];
        }

        private boolean takeNumber() {
            int place = text.start;
            text.readNumber(number);
            text.next();
            if (text.kind == '*' || text.kind == 'd') {
                return scaleUppermost(place);
            }
            Line line = shelf.line(Wide.small(number));
            if (line == null) {
                return text.refuse(FAULT_NAME, place);
            }
            Line top = raise();
            if (top == null) {
                return text.refuse(FAULT_STACK, place);
            }
            top.copyFrom(line);
            return true;
        }

        private boolean scaleUppermost(int place) {
            if (Wide.width(number, 0) == 0) {
                return text.refuse(FAULT_ZERO, place);
            }
            Line top = uppermost();
            if (top == null) {
                return text.refuseHere(FAULT_STACK);
            }
            if (text.kind == 'd') {
                divider.take(number);
                top.divide(divider);
            } else if (!top.multiply(number, product)) {
                return text.refuseHere(FAULT_ROOM);
            }
            text.next();
            return true;
        }

        private boolean takeLiteral() {
            int place = text.start;
            int variable = text.variable;
            int sign = text.sign;
            if (!text.knowsVariable(shelf.variables)) {
                return text.refuseHere(FAULT_NAME);
            }
            text.next();
            if (text.kind == 'w') {
                return weakenUppermost(variable);
            }
            Line top = raise();
            if (top == null) {
                return text.refuse(FAULT_STACK, place);
            }
            top.setLiteral(variable, sign);
            return true;
        }

        private boolean weakenUppermost(int variable) {
            Line top = uppermost();
            if (top == null) {
                return text.refuseHere(FAULT_STACK);
            }
            top.without(variable);
            text.next();
            return true;
        }

        private boolean addUppermost() {
            Line top = uppermost();
            if (top == null || height < 2) {
                return text.refuseHere(FAULT_STACK);
            }
            height--;
            if (!stack[height - 1].add(top)) {
                return text.refuseHere(FAULT_ROOM);
            }
            text.next();
            return true;
        }

        private boolean cutUppermost() {
            Line top = uppermost();
            if (top == null) {
                return text.refuseHere(FAULT_STACK);
            }
            top.cut();
            text.next();
            return true;
        }

        private boolean takeForced() {
            text.next();
            if (!condition.read(false)) {
                return false;
            }
            stack[0].setSums(condition.sums, false);
            // A LINE too many is the lesser FAULT of the two that can be told at the ;
            if (!shelf.isFull() && !follows(stack[0])) {
                return text.refuseHere(FAULT_CLAIM);
            }
            return addLine(OF_U);
        }

        private boolean follows(Line line) {
            opposite.setOpposite(line);
            int trueBits = 0;
            int falseBits = 0;
            // Each round but the last gives a VARIABLE a value.
            for (int round = 0; round <= shelf.variables; round++) {
                int before = trueBits | falseBits;
                for (int k = 0; k <= shelf.size; k++) {
                    Line at = k == 0 ? opposite : shelf.line(k);
                    int forced = at == null ? 0 : at.look(trueBits, falseBits, shelf.rest);
                    if (forced == Line.BROKEN) {
                        return true;
                    }
                    if (forced != 0) {
                        trueBits |= forced & at.plain;
                        falseBits |= forced & at.negated;
                    }
                }
                if ((trueBits | falseBits) == before) {
                    return false;
                }
            }
            return false;
        }

        private boolean takeClaim() {
            text.next();
            if (!text.expect(TextReader.NUMBER)) {
                return false;
            }
            text.readNumber(number);
            Line line = shelf.line(Wide.small(number));
            if (line == null) {
                return text.refuseHere(FAULT_NAME);
            }
            text.next();
            if (!text.expect(';')) {
                return false;
            }
            return line.isFalse(shelf.rest) || text.refuseHere(FAULT_CLAIM);
        }
    }

    /** The TRAIL, and the values that it gives. */
    private static final class Trail {
        final int variables;
        /** N for xN, -N for ~xN. */
        final int[] literals;
        final int[] levels;
        final int[] reasons;
        int size;
        int trueBits;
        int falseBits;
        /** Bit N - 1: true was the value that the VARIABLE N had last. */
        int lastTrue;

        Trail(int variables) {
            this.variables = variables;
            literals = new int[variables];
            levels = new int[variables];
            reasons = new int[variables];
        }

        void clear() {
            size = 0;
            trueBits = 0;
            falseBits = 0;
            lastTrue = 0;
        }

        boolean isComplete() {
            return size >= variables;
        }

        int valueOf(int variable) {
            int bit = 1 << (variable - 1);
            if ((trueBits & bit) != 0) {
                return 1;
            }
            return (falseBits & bit) != 0 ? 0 : NONE;
        }

        void push(int literal, int level, int reason) {
            if (isComplete()) {
                return;
            }
            literals[size] = literal;
            levels[size] = level;
            reasons[size] = reason;
            size++;
            int bit = bitOf(literal);
            if (literal > 0) {
                trueBits |= bit;
                lastTrue |= bit;
            } else {
                falseBits |= bit;
                lastTrue &= ~bit;
            }
        }

        /** The LITERAL of a CHOICE: the least VARIABLE without value, with the one that it had last. */
        int choice() {
            int variable = leastOf(~(trueBits | falseBits));
            return (lastTrue & 1 << (variable - 1)) != 0 ? variable : -variable;
        }

        static int leastOf(int bits) {
            return Integer.numberOfTrailingZeros(bits) + 1;
        }

        private static int bitOf(int literal) {
            return 1 << (Math.abs(literal) - 1);
        }

        /** How many LITERALS there are up to this LEVEL. */
        int sizeAt(int level) {
            int n = size;
            while (n > 0 && levels[n - 1] > level) {
                n--;
            }
            return n;
        }

        /** VARIABLES, as bits, that the first n LITERALS make true. */
        int trueBitsOf(int n) {
            int bits = 0;
            for (int i = 0; i < n && i < size; i++) {
                bits |= literals[i] > 0 ? bitOf(literals[i]) : 0;
            }
            return bits;
        }

        int falseBitsOf(int n) {
            int bits = 0;
            for (int i = 0; i < n && i < size; i++) {
                bits |= literals[i] < 0 ? bitOf(literals[i]) : 0;
            }
            return bits;
        }

        void keepLevels(int level) {
            int n = sizeAt(level);
            trueBits = trueBitsOf(n);
            falseBits = falseBitsOf(n);
            size = n;
        }
    }

    /** The search; written is its PROOF. */
    private static final class Search {
        static final int ABSENT = 0;
        static final int GOING = 1;
        static final int SOLVED = 2;
        static final int NONE_HOLDS = 3;
        static final int FULL = 4;

        final Shelf shelf;
        final Trail path;
        final ByteRow written = new ByteRow(MOST_PROOF);
        int state;
        int level;
        int choices;
        int learned;
        int acts;
        private int proofBefore;
        private final Line broken;
        private final Line reason;
        private final Divider divider = new Divider();
        private final int[] number = new int[Wide.WORDS];
        private final int[] spare = new int[Wide.WORDS];
        private final int[] product = new int[2 * Wide.WORDS];

        Search(Shelf shelf) {
            this.shelf = shelf;
            path = new Trail(shelf.variables);
            broken = new Line(shelf.variables);
            reason = new Line(shelf.variables);
        }

        void forget() {
            state = ABSENT;
            level = 0;
            choices = 0;
            learned = 0;
            acts = 0;
            path.clear();
            written.keep(0);
        }

        void start() {
            forget();
            state = GOING;
        }

        void act() {
            acts++;
            for (int k = 1; k <= shelf.size; k++) {
                Line line = shelf.line(k);
                int forced = line == null ? 0 : line.look(path.trueBits, path.falseBits, shelf.rest);
                if (forced == Line.BROKEN) {
                    boolean room = resolve(k, line);
                    finish(room);
                    return;
                }
                if (forced != 0) {
                    int variable = Trail.leastOf(forced);
                    path.push(variable * line.signOf(variable), level, k);
                    return;
                }
            }
            if (path.isComplete()) {
                state = SOLVED;
            } else {
                level++;
                choices++;
                path.push(path.choice(), level, 0);
            }
        }

        /** Makes broken the LINE to learn and writes its STEP, but for the end; answers whether there was ROOM. */
        private boolean resolve(int k, Line line) {
            proofBefore = written.size;
            broken.copyFrom(line);
            written.add('p');
            written.add(' ');
            written.addSmall(k);
            boolean ready = readyLevel() != NONE;
            for (int i = path.size - 1; i >= 0 && !ready; i--) {
                int variable = Math.abs(path.literals[i]);
                if (broken.signOf(variable) * path.literals[i] >= 0) {
                    continue;
                }
                if (!takeReason(i, variable) || !addReason(variable)) {
                    return false;
                }
                ready = readyLevel() != NONE;
            }
            return ready || level == 0;
        }

        private void finish(boolean room) {
            writeEnd();
            if (!room || shelf.isFull() || written.overflowed) {
                written.keep(proofBefore);
                state = FULL;
                return;
            }
            if (level == 0) {
                state = NONE_HOLDS;
            } else {
                level = readyLevel();
                path.keepLevels(level);
            }
            shelf.add(broken, LEARNED);
            learned++;
        }

        private void writeEnd() {
            written.addBlankAnd(';');
            written.add('\n');
            if (level == 0) {
                written.add('c');
                written.add(' ');
                written.addSmall(shelf.size + 1);
                written.addBlankAnd(';');
                written.add('\n');
            }
        }

        /** The least LEVEL below the present one at which the LINE is BROKEN or FORCES something, or NONE. */
        private int readyLevel() {
            for (int j = 0; j < level; j++) {
                int n = path.sizeAt(j);
                if (broken.look(path.trueBitsOf(n), path.falseBitsOf(n), shelf.rest) != 0) {
                    return j;
                }
            }
            return NONE;
        }

        /** Brings the LINE of the TRAIL's LITERAL i to where that LITERAL has 1. */
        private boolean takeReason(int i, int variable) {
            int k = path.reasons[i];
            Line line = shelf.line(k);
            if (line == null) {
                return false;
            }
            reason.copyFrom(line);
            written.add(' ');
            written.addSmall(k);
            Wide.copy(number, 0, line.words, variable * Wide.WORDS);
            divider.take(number);
            weakenReason(i, variable);
            if (!isOne(number)) {
                reason.divide(divider);
                writeNumberAnd('d');
            }
            reason.cut();
            written.addBlankAnd('s');
            return true;
        }

        private void weakenReason(int i, int kept) {
            int trueBits = path.trueBitsOf(i);
            int falseBits = path.falseBitsOf(i);
            int loose = reason.plain & ~falseBits | reason.negated & ~trueBits;
            for (int n = 1; n <= shelf.variables; n++) {
                if (n == kept || (loose & 1 << (n - 1)) == 0) {
                    continue;
                }
                if (divider.split(reason.words, n * Wide.WORDS)) {
                    reason.without(n);
                    written.addBlankAnd('x');
                    written.addSmall(n);
                    written.addBlankAnd('w');
                }
            }
        }

        private boolean addReason(int variable) {
            Wide.copy(number, 0, broken.words, variable * Wide.WORDS);
            if (!isOne(number)) {
                if (!reason.multiply(number, product)) {
                    return false;
                }
                writeNumberAnd('*');
            }
            if (!broken.add(reason)) {
                return false;
            }
            broken.cut();
            written.addBlankAnd('+');
            written.addBlankAnd('s');
            return true;
        }

        private static boolean isOne(int[] n) {
            return Wide.small(n) == 1;
        }

        private void writeNumberAnd(int sign) {
            Wide.copy(spare, 0, number, 0);
            written.add(' ');
            written.addNumber(spare);
            written.addBlankAnd(sign);
        }
    }
}
