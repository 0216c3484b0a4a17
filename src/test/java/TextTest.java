/** Promises 1 to 10: the tape, PROBLEMS, STEPS, FAULTS, and what is told of LINES. Answers worked out by hand. */
public final class TextTest {
    private static final String NINES = "9".repeat(60);

    public static void main(String[] args) {
        newObject();
        feedAndBack();
        load();
        problems();
        tokens();
        loadFaults();
        check();
        stackFaults();
        roomFaults();
        forced();
        claims();
        faultsGoFromTheLeft();
        linesAreTold();
        wideNumbers();
        divisions();
        Due.end("TextTest");
    }

    private static void loadFault(int v, String text, int kind, int place) {
        Bench x = Due.loaded(v, "x1>=1;x1>=0;");
        Due.write(x, text);
        Due.due(text + ": load()", x.load(), -1);
        Due.fault(text, x, kind, place);
        Due.due(text + ": count(0)", x.count(0), 2);
        Due.due(text + ": count(10)", x.count(10), 0);
    }

    /** With LINES 1: 2 x1 1 ~x2 >= 2, and 2: >= 1 (FALSE), of three VARIABLES. */
    private static Bench small() {
        return Due.loaded(3, "2x1 ~x2>=2; >=1;");
    }

    private static void checkFault(String text, int done, int kind, int place) {
        Bench x = small();
        Due.due(text + ": check()", Due.check(x, text), done);
        Due.fault(text, x, kind, place);
        Due.due(text + ": count(10)", x.count(10), 0);
    }

    private static void newObject() {
        for (int v : new int[] {Integer.MIN_VALUE, -1, 0, 1, 2, 15, 16, 17, Integer.MAX_VALUE}) {
            int most = Math.max(1, Math.min(16, v));
            Bench x = new Bench(v);
            for (int what = 0; what <= 10; what++) {
                Due.due("new, v " + v + ": count(" + what + ")", x.count(what), 0);
            }
            Due.fault("new", x, 0, -1);
            Due.due("new: run(1)", x.run(1), -1);
            Due.due("new: run(0)", x.run(0), -1);
            Due.due("new: origin(1)", x.origin(1), 0);
            Due.write(x, "x" + most + ">=1;");
            Due.due("v " + v + ": load() of the last", x.load(), 1);
            Due.write(x, "x" + (most + 1) + ">=1;");
            Due.due("v " + v + ": load() of one more", x.load(), -1);
            Due.fault("v " + v, x, 2, 0);
        }
        Due.due("NONE", PlaneBench.NONE, -1);
    }

    private static void feedAndBack() {
        Bench x = new Bench(2);
        Due.due("feed", x.feed(0x78312078, 0x323e3d31, 0x3b202020, 0x20202020, 0x20202020), 20);
        Due.due("back(0)", x.back(0), 20);
        Due.due("back(-1)", x.back(-1), -1);
        Due.due("back(21)", x.back(21), -1);
        Due.due("back(least)", x.back(Integer.MIN_VALUE), -1);
        Due.due("back(11)", x.back(11), 9);
        Due.due("count(10)", x.count(10), 9);
        Due.due("load()", x.load(), 1);
        Due.due("the highest byte of a comes first", Due.line(x, 1), "1 x1 1 x2 >= 1");
        Due.due("back(1) of nothing", x.back(1), -1);
        Due.due("back(0) of nothing", x.back(0), 0);
        for (int i = 1; i <= 200; i++) {
            Due.due("feed " + i, x.feed(0x20202020, 0x20202020, 0x20202020, 0x20202020, 0x20202020), 20 * i);
        }
        Due.due("feed beyond 4,000", x.feed(0, 0, 0, 0, 0), -1);
        Due.due("count(10) at 4,000", x.count(10), 4000);
        Due.due("back(19)", x.back(19), 3981);
        Due.due("feed at 3,981", x.feed(0, 0, 0, 0, 0), -1);
        Due.due("back(1)", x.back(1), 3980);
        Due.due("feed at 3,980", x.feed(0x20202020, 0x20202020, 0x20202020, 0x20202020, 0x20202020), 4000);
        Due.due("load() of blanks", x.load(), 0);
        Due.due("count(10) after load()", x.count(10), 0);
    }

    private static void load() {
        Bench x = Due.loaded(4, "x1 x2 >= 1 ; 3 x3 <= 2 ; x1 x4 = 1 ;");
        Due.due("count(0)", x.count(0), 4);
        Due.due("count(1)", x.count(1), 4);
        Due.check(x, "p 1 2 + ;");
        Due.due("count(0) with a p", x.count(0), 5);
        Due.due("count(1) with a p", x.count(1), 4);
        x.begin();
        x.run(3);
        Due.write(x, "x1>=1; x9>=1;");
        Due.due("load() with a FAULT", x.load(), -1);
        Due.due("LINES stay", x.count(0), 5);
        Due.due("the search stays", x.count(8), 3);
        Due.due("the search goes on", x.count(3), 1);
        Due.write(x, "x2>=1;");
        Due.due("load()", x.load(), 1);
        Due.due("no search", x.count(3), 0);
        Due.due("no ACTS", x.count(8), 0);
        Due.due("no TRAIL", x.count(4), 0);
        Due.due("no value", x.value(1), -1);
        Due.due("run(1)", x.run(1), -1);
        Due.due("count(1)", x.count(1), 1);
        Due.due("LINE 1", Due.line(x, 1), "1 x2 >= 1");
        Due.due("no LINE 2", x.origin(2), 0);
        Due.due("load() of nothing", x.load(), 0);
        Due.due("no LINES", x.count(0), 0);
        Due.fault("of nothing", x, 0, -1);
        Due.write(x, "x1>=1;".repeat(40));
        Due.due("40 LINES", x.load(), 40);
        Due.write(x, "x1=1;".repeat(20));
        Due.due("40 LINES of =", x.load(), 40);
    }

    private static void problem(String text, String... lines) {
        Bench x = Due.loaded(12, text);
        Due.due(text + ": count(0)", x.count(0), lines.length);
        for (int k = 1; k <= lines.length; k++) {
            Due.due(text + ": LINE " + k, Due.line(x, k), lines[k - 1]);
            Due.due(text + ": origin", x.origin(k), 1);
        }
    }

    private static void problems() {
        problem("2x1+3~x2 x3>=4;", "2 x1 3 ~x2 1 x3 >= 4");
        problem("-2x1>=-1;", "2 ~x1 >= 1");
        problem("-2x1>=-5;", "2 ~x1 >= 0");
        problem("-2~x1>=-1;", "2 x1 >= 1");
        problem("x1 <= 0;", "1 ~x1 >= 1");
        problem("2x1 3x2 <= 4;", "2 ~x1 3 ~x2 >= 1");
        problem("x1 x2 = 1;", "1 x1 1 x2 >= 1", "1 ~x1 1 ~x2 >= 1");
        problem("x1 ~x1>=1;", ">= 0");
        problem("x1 ~x1>=2;", ">= 1");
        problem("2x1 ~x1>=1;", "1 x1 >= 0");
        problem("x1 2~x1>=2;", "1 ~x1 >= 1");
        problem("x1 x1 x1>=2;", "3 x1 >= 2");
        problem("x1 -1x1>=0;", ">= 0");
        problem("0x1 x2>=1;", "1 x2 >= 1");
        problem("0x1 -0 x2>=1;", ">= 1");
        problem(">=0; <=0; =0;", ">= 0", ">= 0", ">= 0", ">= 0");
        problem(">=1; <=-1; =1;", ">= 1", ">= 1", ">= 1", ">= 0");
        problem("5x1>=+2;", "5 x1 >= 2");
        problem("x10 x1 2 x02>=1;", "1 x1 2 x2 1 x10 >= 1");
        problem("+ 1 x1 - 2 x2 >= - 1 ;", "1 x1 2 ~x2 >= 1");
        problem("-3x1 -4x2 5x3>=-10;", "3 ~x1 4 ~x2 5 x3 >= 0");
        problem("-3x1 -4x2 5x3>=-6;", "3 ~x1 4 ~x2 5 x3 >= 1");
    }

    private static void tokens() {
        problem("x1x2>=1;x1>=1;", "1 x1 1 x2 >= 1", "1 x1 >= 1");
        problem("x123x3>=1;", "3 x3 1 x12 >= 1");
        problem("\tx1\n>=1 ;# x2 >= 1 ;\n x3>=1;#", "1 x1 >= 1", "1 x3 >= 1");
        problem("x1#note\n>=#note # more\n1;", "1 x1 >= 1");
        problem("#", new String[0]);
        problem("#\n", new String[0]);
        problem("007x1>=003;", "7 x1 >= 3");
        problem("x1>=" + "0".repeat(59) + "1;", "1 x1 >= 1");
        loadFault(3, "x1>=" + "0".repeat(60) + "1;", 1, 4);
        loadFault(3, "x1 > = 1;", 1, 3);
        loadFault(3, "x1 < 1;", 1, 3);
        loadFault(3, "x1 >", 1, 3);
        loadFault(3, "~ x1>=1;", 1, 0);
        loadFault(3, "x 1>=1;", 1, 0);
        loadFault(3, "~x>=1;", 1, 0);
        loadFault(3, "~", 1, 0);
        loadFault(3, "~x", 1, 0);
        loadFault(3, "x", 1, 0);
        loadFault(3, "x1\r>=1;", 1, 2);
        loadFault(3, "x1 \u0000>=1;", 1, 3);
        loadFault(3, "x1>=1;#ab\u007fc\n", 1, 9);
        loadFault(3, "x1>=1;#\u00e9", 1, 7);
        loadFault(3, "x1>=1; y", 1, 7);
        loadFault(3, "X1>=1;", 1, 0);
        loadFault(3, "x1==1;", 1, 3);
        loadFault(3, "x1=>1;", 1, 3);
    }

    private static void loadFaults() {
        loadFault(3, "x1>=1", 1, 5);
        loadFault(3, "x1>=1 # ", 1, 8);
        loadFault(3, "x1>=", 1, 4);
        loadFault(3, "x1", 1, 2);
        loadFault(3, "x1;", 1, 2);
        loadFault(3, "3>=1;", 1, 1);
        loadFault(3, "x1 3>=1;", 1, 4);
        loadFault(3, "-x1>=1;", 1, 1);
        loadFault(3, "--1x1>=1;", 1, 1);
        loadFault(3, "x1>=x2;", 1, 4);
        loadFault(3, "x1>=x9;", 1, 4);
        loadFault(3, "x1>=--1;", 1, 5);
        loadFault(3, "x1>=1 1;", 1, 6);
        loadFault(3, "x1>=1;;", 1, 6);
        loadFault(3, "x1*2>=1;", 1, 2);
        loadFault(3, "p 1;", 1, 0);
        loadFault(3, "x4>=1;", 2, 0);
        loadFault(3, "x1 2~x0>=1;", 2, 4);
        loadFault(3, "x00>=1;", 2, 0);
        loadFault(3, "x99>=1;", 2, 0);
        loadFault(3, "x1>=1; x4 ?", 2, 7);
        loadFault(3, "x1>=1;".repeat(41), 5, 245);
        loadFault(3, "x1>=1;".repeat(39) + "x1=1;", 5, 238);
        loadFault(3, "x1>=1;".repeat(40) + "x1=1;", 5, 244);
        loadFault(3, "x1>=1;".repeat(41) + "?", 5, 245);
    }

    private static void step(String text, String line) {
        Bench x = Due.loaded(4, "2x1 3~x2 x3>=4; 3x2 2x3 ~x1>=3; 5x1 5x2 5x3>=6; x4>=0;");
        Due.due(text + ": check()", Due.check(x, text), 1);
        Due.fault(text, x, 0, -1);
        Due.due(text, Due.line(x, 5), line);
        Due.due(text + ": origin", x.origin(5), 2);
        Due.due(text + ": count(1)", x.count(1), 4);
    }

    private static void check() {
        step("p 1 ;", "2 x1 3 ~x2 1 x3 >= 4");
        step("p 1 2 + ;", "1 x1 3 x3 >= 3");
        step("p 2 1 + ;", "1 x1 3 x3 >= 3");
        step("p 1 3 + ;", "7 x1 2 x2 6 x3 >= 7");
        step("p 3 1 + ;", "7 x1 2 x2 6 x3 >= 7");
        step("p 1 2 * ;", "4 x1 6 ~x2 2 x3 >= 8");
        step("p 1 1 * ;", "2 x1 3 ~x2 1 x3 >= 4");
        step("p 1 2 d ;", "1 x1 2 ~x2 1 x3 >= 2");
        step("p 1 3 d ;", "1 x1 1 ~x2 1 x3 >= 2");
        step("p 1 1 d ;", "2 x1 3 ~x2 1 x3 >= 4");
        step("p 1 99999999999 d ;", "1 x1 1 ~x2 1 x3 >= 1");
        step("p 3 x1 w s ;", "1 x2 1 x3 >= 1");
        step("p 3 ~x1 w ;", "5 x2 5 x3 >= 1");
        step("p 3 x1 w x2 w ;", "5 x3 >= 0");
        step("p 3 x4 w ;", "5 x1 5 x2 5 x3 >= 6");
        step("p 3 x1 w x2 w s ;", ">= 0");
        step("p 4 s ;", ">= 0");
        step("p x1 ;", "1 x1 >= 0");
        step("p ~x1 ;", "1 ~x1 >= 0");
        step("p x1 ~x1 + ;", ">= 0");
        step("p 1 x2 + ;", "2 x1 2 ~x2 1 x3 >= 3");
        step("p 1 x2 3 * + ;", "2 x1 1 x3 >= 1");
        step("p 1 x2 5 * + ;", "2 x1 2 x2 1 x3 >= 1");
        step("p 1 ~x1 9 * + ;", "7 ~x1 3 ~x2 1 x3 >= 2");
        step("p 4 ~x4 7 * + ;", "6 ~x4 >= 0");
        step("p3 5d2*3+2d;", "4 x1 4 x2 4 x3 >= 5");
        step("p x1 x2 x3 x1 x2 x3 x1 x2 x3 x1 x2 x3 + + + + + + + + + + + ;", "4 x1 4 x2 4 x3 >= 0");
        Bench x = small();
        Due.due("new LINES can be named at once", Due.check(x, "p 1;p 3 3+;c 2;p 4 2 d s;"), 4);
        Due.due("c makes none", x.count(0), 5);
        Due.due("LINE 4", Due.line(x, 4), "4 x1 2 ~x2 >= 4");
        Due.due("LINE 5", Due.line(x, 5), "2 x1 1 ~x2 >= 2");
        Due.due("nothing", Due.check(x, ""), 0);
        Due.fault("nothing", x, 0, -1);
        Due.due("done up to the FAULT", Due.check(x, "p 1; p 1; p 1 + ; p 1;"), 2);
        Due.fault("done up to the FAULT", x, 4, 14);
        Due.due("two more", x.count(0), 7);
    }

    private static void stackFaults() {
        checkFault("p ;", 0, 4, 2);
        checkFault("p 1 1 ;", 0, 4, 6);
        checkFault("p + ;", 0, 4, 2);
        checkFault("p 1 + ;", 0, 4, 4);
        checkFault("p s ;", 0, 4, 2);
        checkFault("p x1 w ;", 0, 4, 5);
        checkFault("p 2 * ;", 0, 4, 4);
        checkFault("p 99 d ;", 0, 4, 5);
        checkFault("p 0 d ;", 0, 3, 2);
        checkFault("p 1 0 * ;", 0, 3, 4);
        checkFault("p 1 000 d ;", 0, 3, 4);
        checkFault("p " + "1 ".repeat(13), 0, 4, 26);
        checkFault("p " + "1 ".repeat(12) + "x1 ;", 0, 4, 26);
        checkFault("p " + "1 ".repeat(12) + "9 ;", 0, 2, 26);
        checkFault("p " + "1 ".repeat(12) + "x9 ;", 0, 2, 26);
        checkFault("p " + "1 ".repeat(12) + "9 d x1 w ;", 0, 4, 35);
        checkFault("p " + "1 ".repeat(12) + "?", 0, 1, 26);
        checkFault("p 1 * ;", 0, 4, 4);
        checkFault("p 1 2 * * ;", 0, 1, 8);
        checkFault("p 1 w ;", 0, 1, 4);
        checkFault("p 1 x1 d ;", 0, 1, 7);
        checkFault("p 1 - ;", 0, 1, 4);
        checkFault("p 1 c 2 ;", 0, 1, 4);
        checkFault("p 1", 0, 1, 3);
        checkFault("p", 0, 1, 1);
        checkFault("p 1 ; s", 1, 1, 6);
        checkFault("p 1 ;;", 1, 1, 5);
        checkFault("p 3 ;", 0, 2, 2);
        checkFault("p 0 ;", 0, 2, 2);
        checkFault("p 1 ; p 3 ; p 5 ;", 2, 2, 14);
        checkFault("p " + NINES + " ;", 0, 2, 2);
        checkFault("p 4294967297 ;", 0, 2, 2);
        checkFault("p " + NINES + "9 ;", 0, 1, 2);
        checkFault("p x4 ;", 0, 2, 2);
        checkFault("p x0 w ;", 0, 2, 2);
        checkFault("p 1 x4 w ;", 0, 2, 4);
        checkFault("p 3 ?", 0, 2, 2);
        checkFault("p 0 ?", 0, 2, 2);
    }

    private static void roomFaults() {
        Bench x = Due.loaded(2, "x1>=1; ~x1>=1; 2x2>=0; >=1;");
        String f = "340282366920938463463374607431768211456 * ";
        // LINES 5 to 8: 2 to the 255 of x1, of its opposite, and the DEGREE alone, once less 1.
        Due.due("up to 2 to the 255", Due.check(x, "p 1 " + f + "170141183460469231731687303715884105728 * ;"
            + "p 2 " + f + "170141183460469231731687303715884105728 * ;"
            + "p 4 " + f + "170141183460469231731687303715884105728 * ;"), 3);
        Due.due("bit 255", x.piece(5, 1, 7), Integer.MIN_VALUE);
        Due.due("bit 255 of the DEGREE", x.piece(7, 0, 7), Integer.MIN_VALUE);
        Due.due("twice", Due.check(x, "p 5 2 * ;"), 0);
        Due.fault("twice", x, 5, 6);
        Due.due("the SUM with itself", Due.check(x, "p 5 5 + ;"), 0);
        Due.fault("the SUM with itself", x, 5, 6);
        Due.due("the DEGREE alone", Due.check(x, "p 7 7 + ;"), 0);
        Due.fault("the DEGREE alone", x, 5, 6);
        Due.due("it counts when all is done", Due.check(x, "p 5 6 + ;"), 1);
        Due.due("the DEGREE is 2 to the 255", x.piece(8, 0, 7), Integer.MIN_VALUE);
        Due.due("no LITERAL", x.literal(8, 1), 0);
        Due.due("TIMES of a great one", Due.check(x, "p 5 " + f + ";"), 0);
        Due.fault("TIMES of a great one", x, 5, 44);
        Due.due("DIVIDED", Due.check(x, "p 5 3 d ;"), 1);
        Due.due("rounded up", x.piece(9, 1, 0), 0xaaaaaaab);
        Due.due("its top", x.piece(9, 1, 7), 0x2aaaaaaa);
        Due.due("2 to the 255 of x2, DEGREE 0", Due.check(x, "p 3 2 d " + f + "170141183460469231731687303715884105728 * ;"), 1);
        Due.due("the COEFFICIENT alone", Due.check(x, "p 10 10 + ;"), 0);
        Due.fault("the COEFFICIENT alone", x, 5, 8);
        Bench y = small();
        Due.due("300 LINES", Due.check(y, "p 1;".repeat(298)), 298);
        Due.due("count(0)", y.count(0), 300);
        Due.due("c goes on", Due.check(y, "c 2;"), 1);
        Due.due("one more by p", Due.check(y, "p 1 ;"), 0);
        Due.fault("one more by p", y, 5, 4);
        Due.due("the STACK ahead of it", Due.check(y, "p 1 1 ;"), 0);
        Due.fault("the STACK ahead of it", y, 4, 6);
        Due.due("one more by u", Due.check(y, "u >= 0 ;"), 0);
        Due.fault("one more by u", y, 5, 7);
        Bench z = Due.loaded(2, "x1>=1;");
        Due.check(z, "p 1;".repeat(299));
        Due.due("one that does not follow", Due.check(z, "u x2 >= 1 ;"), 0);
        Due.fault("one that does not follow", z, 5, 10);
        Due.write(z, "x1>=1;");
        Due.due("load() makes room", z.load(), 1);
        Due.due("again", Due.check(z, "p 1;"), 1);
    }

    private static void forcing(String problem, String claim, boolean follows) {
        Bench x = Due.loaded(4, problem);
        int before = x.count(0);
        Due.due(problem + " " + claim, Due.check(x, claim), follows ? 1 : 0);
        Due.fault(problem + " " + claim, x, follows ? 0 : 6, follows ? -1 : claim.indexOf(';'));
        Due.due(problem + " " + claim + ": count(0)", x.count(0), before + (follows ? 1 : 0));
        Due.due(problem + " " + claim + ": origin", x.origin(before + 1), follows ? 3 : 0);
    }

    private static void forced() {
        forcing("x1>=1;", "u x1>=1;", true);
        forcing("x1>=1;", "u x1 x2>=1;", true);
        forcing("x1>=1;", "u x2>=1;", false);
        forcing("x1>=1;", "u x2>=0;", true);
        forcing("", "u >=0;", true);
        forcing("", "u >=-1;", true);
        forcing("", "u >=1;", false);
        forcing("x1>=1;~x1>=1;", "u >=1;", true);
        forcing("~x1x2>=1;~x2x3>=1;~x3x4>=1;", "u ~x1x4>=1;", true);
        forcing("~x3x4>=1;~x2x3>=1;~x1x2>=1;", "u ~x1x4>=1;", true);
        forcing("~x3x4>=1;~x2x3>=1;~x1x2>=1;", "u x1x4>=1;", false);
        forcing("x1x2>=1;x1~x2>=1;", "u x1>=1;", true);
        forcing("x1x2>=1;x1~x2>=1;~x1x2>=1;~x1~x2>=1;", "u >=1;", false);
        forcing("2x1x2x3>=2;", "u x1x2>=1;", true);
        forcing("2x1x2x3>=2;", "u x2x3>=1;", false);
        forcing("x1x2x3>=2;", "u x1x2>=1;", true);
        forcing("x1x2x3>=2;", "u 2x1 2x2 2x3>=3;", false);
        forcing("x1x2x3>=2;", "u x1x2x3>=3;", false);
        forcing("x1>=2;", "u x1>=5;", true);
        Bench x = Due.loaded(3, "x1>=1;~x1x2>=1;");
        Due.due("u on u", Due.check(x, "u 4 x2 -1 ~x3 >= 2 ; u x2 x3 >= 1 ; u x3 >= 1 ;"), 2);
        Due.fault("u on u", x, 6, 46);
        Due.due("as in a PROBLEM", Due.line(x, 3), "4 x2 1 x3 >= 3");
        checkFault("u x1 <= 1 ;", 0, 1, 5);
        checkFault("u x1 = 1 ;", 0, 1, 5);
        checkFault("u x4 >= 1 ;", 0, 2, 2);
        checkFault("u x1 >= 1", 0, 1, 9);
        checkFault("u x1 1 ;", 0, 1, 7);
        checkFault("u ;", 0, 1, 2);
    }

    private static void claims() {
        Bench x = Due.loaded(2, "x1>=1; >=1; x1 x2>=3; x1>=0;");
        Due.due("FALSE ones", x.count(9), 2);
        Due.due("c", Due.check(x, "c 2 ; c 3 ; c 1 ;"), 2);
        Due.fault("c", x, 6, 16);
        Due.due("c makes none", x.count(0), 4);
        Due.due("one more", Due.check(x, "p 2;"), 1);
        Due.due("FALSE ones", x.count(9), 3);
        checkFault("c 3 ;", 0, 2, 2);
        checkFault("c 0 ;", 0, 2, 2);
        checkFault("c " + NINES + " ;", 0, 2, 2);
        checkFault("c x1 ;", 0, 1, 2);
        checkFault("c ;", 0, 1, 2);
        checkFault("c 2 2 ;", 0, 1, 4);
        checkFault("c 2", 0, 1, 3);
        checkFault("c 1", 0, 1, 3);
        checkFault("c 1 ;", 0, 6, 4);
        checkFault("c -2 ;", 0, 1, 2);
    }

    private static void faultsGoFromTheLeft() {
        checkFault("p 1 ; ?", 1, 1, 6);
        checkFault("p 1 ; p 9 ; ?", 1, 2, 8);
        checkFault("p 1 + ?", 0, 4, 4);
        checkFault("p 0 d ?", 0, 3, 2);
        checkFault("?", 0, 1, 0);
        checkFault("#\u0001", 0, 1, 1);
        checkFault("p 1 ;#\u0001", 1, 1, 6);
        Bench x = new Bench(2);
        Due.due("fault(2)", x.fault(2), -1);
        Due.due("fault(-1)", x.fault(-1), -1);
        Due.check(x, " ?");
        Due.fault("the latest", x, 1, 1);
        Due.due("fault(2)", x.fault(2), -1);
        x.load();
        Due.fault("the latest", x, 0, -1);
        Due.write(x, "x9");
        x.load();
        Due.fault("the latest", x, 2, 0);
        x.begin();
        x.run(2);
        Due.fault("the search has none", x, 2, 0);
        x.check();
        Due.fault("the latest", x, 0, -1);
    }

    private static void linesAreTold() {
        Bench x = Due.loaded(3, "2x1 3~x2>=4;");
        Due.due("literal(1, 1)", x.literal(1, 1), 1);
        Due.due("literal(1, 2)", x.literal(1, 2), -1);
        Due.due("literal(1, 3)", x.literal(1, 3), 0);
        int[] ends = {Integer.MIN_VALUE, -1, 0, 2, 4, 17, Integer.MAX_VALUE};
        for (int odd : ends) {
            Due.due("literal(" + odd + ", 1)", x.literal(odd, 1), -1);
            Due.due("piece(" + odd + ", 1, 0)", x.piece(odd, 1, 0), 0);
            Due.due("holds(" + odd + ", 1)", x.holds(odd, 1), false);
            Due.due("origin(" + odd + ")", x.origin(odd), 0);
        }
        for (int odd : new int[] {Integer.MIN_VALUE, -1, 0, 4, 17, Integer.MAX_VALUE}) {
            Due.due("literal(1, " + odd + ")", x.literal(1, odd), -1);
            Due.due("piece(1, " + odd + ", 0)", x.piece(1, odd, 0), odd == 0 ? 4 : 0);
        }
        for (int odd : new int[] {Integer.MIN_VALUE, -1, 1, 7, 8, Integer.MAX_VALUE}) {
            Due.due("piece(1, 1, " + odd + ")", x.piece(1, 1, odd), 0);
        }
        boolean[] holding = {false, true, false, false, false, true, false, false};
        for (int mask = 0; mask < 8; mask++) {
            Due.due("holds(1, " + mask + ")", x.holds(1, mask), holding[mask]);
            Due.due("holds(1, " + mask + ") with more bits", x.holds(1, mask | 0xfffffff8), holding[mask]);
        }
        Due.due("origin(1)", x.origin(1), 1);
        Due.due("count(-1)", x.count(-1), -1);
        Due.due("count(11)", x.count(11), -1);
        Bench y = Due.loaded(1, ">=0;>=1;");
        Due.due("DEGREE 0 holds", y.holds(1, 0), true);
        Due.due("a FALSE one does not", y.holds(2, -1), false);
    }

    private static void wideNumbers() {
        Bench x = Due.loaded(2, NINES + "x1 " + NINES + "x1 -" + NINES + "x2>=-" + NINES + ";");
        java.math.BigInteger nines = new java.math.BigInteger(NINES);
        for (int i = 0; i < 8; i++) {
            Due.due("piece(1, 1, " + i + ")", x.piece(1, 1, i), nines.shiftLeft(1).shiftRight(32 * i).intValue());
            Due.due("piece(1, 2, " + i + ")", x.piece(1, 2, i), nines.shiftRight(32 * i).intValue());
            Due.due("piece(1, 0, " + i + ")", x.piece(1, 0, i), 0);
        }
        Due.due("literal(1, 2)", x.literal(1, 2), -1);
        Due.check(x, "p 1 99999 * 7 d 1000000000000000000000000000 d ;");
        java.math.BigInteger due = PlainModel.Row.up(PlainModel.Row.up(
            nines.shiftLeft(1).multiply(java.math.BigInteger.valueOf(99999)), java.math.BigInteger.valueOf(7)),
            java.math.BigInteger.TEN.pow(27));
        for (int i = 0; i < 8; i++) {
            Due.due("piece(2, 1, " + i + ")", x.piece(2, 1, i), due.shiftRight(32 * i).intValue());
        }
    }

    /** Words at the edges, where long division guesses wrong. */
    private static java.math.BigInteger edgy(java.util.Random r) {
        long[] words = {0, 1, 2, 0x7fffffffL, 0x80000000L, 0x80000001L, 0xfffffffeL, 0xffffffffL};
        java.math.BigInteger n = java.math.BigInteger.valueOf(1 + r.nextInt(3));
        for (int i = r.nextInt(7); i > 0; i--) {
            n = n.shiftLeft(32).add(java.math.BigInteger.valueOf(words[r.nextInt(words.length)]));
        }
        n = n.shiftRight(r.nextInt(4)).max(java.math.BigInteger.ONE);
        return n.toString().length() > 60 ? n.shiftRight(32) : n;
    }

    private static void divisions() {
        java.util.Random r = new java.util.Random(11);
        for (int i = 0; i < 4000; i++) {
            java.math.BigInteger a = edgy(r);
            java.math.BigInteger f = edgy(r);
            java.math.BigInteger d = edgy(r);
            Bench x = Due.loaded(1, a + "x1>=" + f + ";");
            boolean room = a.max(f).multiply(f).compareTo(PlainModel.ROOM) < 0;
            String step = "p 1 " + f + " * " + d + " d ;";
            Due.due(a + " " + step, Due.check(x, step), room ? 1 : 0);
            java.math.BigInteger due = PlainModel.Row.up(a.multiply(f), d);
            java.math.BigInteger degree = PlainModel.Row.up(f.multiply(f), d);
            for (int w = 0; w < 8 && room; w++) {
                Due.due(a + " " + step + " piece " + w, x.piece(2, 1, w), due.shiftRight(32 * w).intValue());
                Due.due(a + " " + step + " DEGREE " + w, x.piece(2, 0, w), degree.shiftRight(32 * w).intValue());
            }
        }
    }
}
