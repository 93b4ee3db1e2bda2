/** The tape's and the law's boundaries, sentence by sentence: promises 8 to 10, and who has and finds a fall. */
public final class EdgeLawTest {
    private static final Due DUE = new Due("EdgeLawTest");
    private static final int BAD = Edge.BAD;
    private static final int NOT = Edge.NOT;
    private static final int FULL = Edge.FULL;
    private static final int VOID = Edge.VOID;
    private static final int MIN = Edge.MIN;
    private static final int MAX = Edge.MAX;
    private static final String DIGITS = "0123456789";
    private static final String NAMES = "dwklhs";
    private static final String OPENERS = "(!-";
    private static final String BETWEEN = "|&<=>+-*/%";

    public static void main(String[] args) {
        feed();
        tapeOf120();
        law();
        lawWithAFault();
        linesOneOrMore();
        line();
        chains();
        compared();
        numbers();
        namesAndNoBlanks();
        everyByte();
        openAtOnce();
        minutesBetween();
        names();
        atHome();
        aheadOfTheFall();
        wrap();
        towardZero();
        oneOrZero();
        firstLineCounts();
        fault();
        notAtAll();
        withoutAText();
        countsOf();
        have();
        finder();
        owes();
        DUE.end();
    }

    /** What law() answers to the text, on an object of its own. */
    private static void lawIs(String text, int answer) {
        Edge.empty(DUE).tape(text).is("law()", answer).is("count(3)", 0);
    }

    /** A cry of d 0, w 0, k 0, l 5, h 0, s 0 counts so by the text. */
    private static void countIs(String text, int counts) {
        Edge.empty(DUE).does("fall(0, 0); cry(0, 0)").law(text).is("counts(0)", counts);
    }

    private static void feed() {
        DUE.says("`int feed(int letter)`: A byte (0 .. 255) comes to THE TAPE: how many it has. BAD, FULL (120).");
        for (Run run : new Run[] {Edge.empty(DUE), Edge.some(DUE), Edge.full(DUE)}) {
            run.keepsEach("feed(?)", BAD, MIN, -129, -1, 256, MAX);
        }
        Edge.full(DUE).keepsEach("feed(?)", FULL, 0, 49, 255);
        Run run = Edge.empty(DUE).are("feed(0); feed(255); count(3)", 1, 2, 2).is("law()", -100);
        run.tape("1").is("feed(255)", 2).is("law()", -101).tape("1").is("feed(0)", 2).is("law()", -101);
        run.tape("1").is("feed(254)", 2).is("feed(1)", 3).is("law()", -101);
    }

    private static void tapeOf120() {
        DUE.says("THE LAW is a TEXT by THE TAPE (at most 120 bytes)");
        Run run = Edge.empty(DUE);
        String text = "1+".repeat(60);
        for (int i = 0; i < 120; i++) {
            run.is("count(3)", i).is("feed(" + (int) text.charAt(i) + ")", i + 1);
        }
        run.keeps("feed(49)", FULL).is("count(3)", 120).is("law()", -220).is("count(3)", 0);
        run.is("feed(49)", 1).is("count(3)", 1);
        lawIs("1+".repeat(59) + "1)", -219);
        lawIs("1+".repeat(59) + "11", 1);
        lawIs("1;".repeat(59) + "1;", -220);
        lawIs("1?1;".repeat(30), -220);
        lawIs("-1;".repeat(39) + "-1?", -220);
        countIs("1+".repeat(59) + "1", 60);
        countIs("1+".repeat(59) + "11", 70);
        countIs("0?1;".repeat(29) + "1111", 1111);
        countIs("(" + "1+".repeat(58) + "11)", 69);
        Run early = Edge.empty(DUE).does("fall(0, 0); cry(0, 0)").tape("0?9;".repeat(30)).is("law()", -220);
        early.is("counts(0)", 18);
    }

    private static void law() {
        DUE.says("`int law()`: THE TAPE becomes THE LAW: 1; -100 less its FAULT; THE TAPE is empty then.");
        Run run = Edge.empty(DUE).does("fall(0, 0); cry(0, 0)").tape("7").is("counts(0)", 18).is("law()", 1);
        run.are("count(3); counts(0)", 0, 7).keeps("law()", -100).is("counts(0)", 7);
        run.tape("8").is("counts(0)", 7).are("law(); counts(0); count(3)", 1, 8, 0);
        run.tape("9)").are("law(); counts(0); count(3)", -101, 8, 0).keeps("law()", -100);
        run.tape("5").is("count(3)", 1).are("law(); counts(0)", 1, 5);
        lawBehindOthers();
    }

    /** Of a former law nothing is left, however much longer it was, nor of a text with a fault between. */
    private static void lawBehindOthers() {
        String[] former = {"1+1+1+1+1+1+1", "1;2;3;4;5", "!!!!1+!!!!1", "1?2;1?3;1?4", "((1+2)*(3+4)-5)%(6+7)"};
        for (String one : former) {
            for (String other : former) {
                Run run = Edge.empty(DUE).does("fall(0, 0); cry(0, 0)").law(one).law(other).law("0?5").is("counts(0)", 0);
                run.law("0?5;0?6").is("counts(0)", 0).law("0?5;7").is("counts(0)", 7).law("9").is("counts(0)", 9);
                run.law(one).tape(other + ")").is("law()", -100 - other.length()).law("0?5").is("counts(0)", 0);
            }
        }
    }

    private static void lawWithAFault() {
        DUE.says("What is answered so changes nothing.");
        Edge.empty(DUE).keeps("law()", -100);
        Run same = Edge.some(DUE).does("feed(41)");
        Run read = new Run(same).is("law()", -102);
        for (Call probe : Probes.GROUPS.get(0)) {
            if (!probe.text.equals("count(3)")) {
                DUE.is("behind a law with a fault " + probe.text, read.make(probe), same.make(probe));
            }
        }
        for (int fc : new int[] {0, 1, 2, 100, 101, 102, 200, 201, 202}) {
            DUE.is("counts", read.make(Call.of("counts", fc)), same.make(Call.of("counts", fc)));
        }
        read.are("redo(); back()", 1, 1);
    }

    private static void linesOneOrMore() {
        DUE.says("LINES, one or more, parted by ; .");
        lawIs("", -100);
        lawIs(";", -100);
        lawIs("1", 1);
        lawIs("1;", -102);
        lawIs(";1", -100);
        lawIs("1;1", 1);
        lawIs("1;;1", -102);
        lawIs("1;".repeat(59) + "1", 1);
    }

    private static void line() {
        DUE.says("LINE: E, or E ? E (what counts if the first is not 0).");
        lawIs("?", -100);
        lawIs("?1", -100);
        lawIs("1?", -102);
        lawIs("1?;1", -102);
        lawIs("1?1", 1);
        lawIs("1?1?1", -103);
        lawIs("1?1;1?1", 1);
        lawIs("(1?1)", -102);
        lawIs("(1;1)", -102);
        countIs("0?7", 0);
        countIs("1?7", 7);
        countIs("-1?7", 7);
        countIs("9999?0", 0);
    }

    private static void chains() {
        DUE.says("E = A { | A }. A = B { & B }.");
        DUE.says("S = P { + P, - P }. P = O { * O, / O, % O }.");
        for (int i = 0; i < BETWEEN.length(); i++) {
            char sign = BETWEEN.charAt(i);
            lawIs("1" + sign + "1", 1);
            lawIs("1" + sign, -102);
            if (sign != '-') {
                lawIs("" + sign, -100);
                lawIs(sign + "1", -100);
                lawIs("1" + sign + sign + "1", -102);
            }
            if ("<=>".indexOf(sign) < 0) {
                lawIs("1" + sign + "1" + sign + "1", 1);
                lawIs(("1" + sign).repeat(59) + "1", 1);
            }
        }
        countIs("9-3-2", 4);
        countIs("64/4/2", 8);
        countIs("9%5%3", 1);
        countIs("2+3*4", 14);
        countIs("2*3+4", 10);
        countIs("1|0&0", 1);
        countIs("0&0|1", 1);
        countIs("1+1=2&2*2>3", 1);
    }

    private static void compared() {
        DUE.says("B = S, or S < S, S = S, S > S.");
        for (char one : new char[] {'<', '=', '>'}) {
            for (char other : new char[] {'<', '=', '>'}) {
                lawIs("1" + one + "1" + other + "1", -103);
                lawIs("(1" + one + "1)" + other + "1", 1);
                lawIs("1" + one + "1&1" + other + "1|1" + one + "1", 1);
            }
        }
        countIs("1<2", 1);
        countIs("2<2", 0);
        countIs("3<2", 0);
        countIs("1=2", 0);
        countIs("2=2", 1);
        countIs("3=2", 0);
        countIs("1>2", 0);
        countIs("2>2", 0);
        countIs("3>2", 1);
        countIs("-8*8*8*8*8*8*8*8*8*8*2<8*8*8*8*8*8*8*8*8*8*2-1", 1);
        countIs("-8*8*8*8*8*8*8*8*8*8*2>8*8*8*8*8*8*8*8*8*8*2-1", 0);
    }

    private static void numbers() {
        DUE.says("O = a number (1 to 4 digits), a NAME, ! O, - O, ( E ).");
        countIs("0", 0);
        countIs("9", 9);
        countIs("10", 10);
        countIs("099", 99);
        countIs("0000", 0);
        countIs("0001", 1);
        countIs("9999", 9999);
        lawIs("00000", -104);
        lawIs("10000", -104);
        lawIs("9999+99999", -109);
        lawIs("9999;9999?9999", 1);
        lawIs("1234d", -104);
        lawIs("()", -101);
        lawIs("(1)(1)", -103);
        lawIs("(1)2", -103);
        lawIs("d2", -101);
        lawIs("2d", -101);
    }

    private static void namesAndNoBlanks() {
        DUE.says("No blanks. NAMES:");
        for (String blank : new String[] {" ", "\t", "\n", "\r", "\0"}) {
            lawIs(blank, -100);
            lawIs(blank + "1", -100);
            lawIs("1" + blank, -101);
            lawIs("1+" + blank + "1", -102);
        }
        for (int letter = 'A'; letter <= 'z'; letter++) {
            boolean name = NAMES.indexOf(letter) >= 0;
            lawIs("" + (char) letter, name ? 1 : -100);
        }
    }

    /** Each byte as the first, and behind a number, a name, a bracket, a bracket that closes, and each sign. */
    private static void everyByte() {
        DUE.says("FAULT: the place (from 0) of the first byte with which no TEXT goes on; the length, if it ends too early.");
        for (int b = 0; b < 256; b++) {
            String at = "" + (char) b;
            boolean digit = DIGITS.indexOf(b) >= 0;
            boolean operand = digit || NAMES.indexOf(b) >= 0;
            boolean opens = OPENERS.indexOf(b) >= 0;
            boolean between = BETWEEN.indexOf(b) >= 0;
            boolean ends = b == '?' || b == ';';
            lawIs(at, operand ? 1 : opens ? -101 : -100);
            lawIs("1" + at, digit ? 1 : between || ends ? -102 : -101);
            lawIs("1234" + at, between || ends ? -105 : -104);
            lawIs("d" + at, between || ends ? -102 : -101);
            lawIs("(" + at, operand || opens ? -102 : -101);
            lawIs("(1" + at, b == ')' ? 1 : digit || between ? -103 : -102);
            lawIs("(1)" + at, between || ends ? -104 : -103);
            lawIs("1?" + at, operand ? 1 : opens ? -103 : -102);
            lawIs("1?1" + at, digit ? 1 : between || b == ';' ? -104 : -103);
            lawIs("1<2" + at, digit ? 1 : between && "<=>".indexOf(b) < 0 || ends ? -104 : -103);
            for (int i = 0; i < BETWEEN.length(); i++) {
                lawIs("1" + BETWEEN.charAt(i) + at, operand ? 1 : opens ? -103 : -102);
            }
            lawIs("!" + at, operand ? 1 : opens ? -102 : -101);
            lawIs("-" + at, operand ? 1 : opens ? -102 : -101);
            lawIs("((((((" + at, operand ? -107 : -106);
            lawIs("!!!!!!" + at, operand ? 1 : -106);
        }
    }

    private static void openAtOnce() {
        DUE.says("At most 6 of ( ! - ahead of an O are open at once.");
        for (int kinds = 0; kinds < 729; kinds++) {
            String open = "";
            String close = "";
            for (int i = 0, k = kinds; i < 6; i++, k /= 3) {
                open += OPENERS.charAt(k % 3);
                close += k % 3 == 0 ? ")" : "";
            }
            Run run = Edge.empty(DUE).tape(open + "1" + close).is("law()", 1);
            for (int i = 0; i < 3; i++) {
                run.tape(open + OPENERS.charAt(i) + "1" + close + (i == 0 ? ")" : "")).is("law()", -106);
            }
            run.tape(open + "1" + close + "*" + open + "1" + close).is("law()", 1);
            run.tape(open + "1" + close + "?" + open + "1" + close + ";" + open + "1" + close).is("law()", 1);
            run.tape("1-" + open + "1" + close).is("law()", 1).tape("1--" + open + "1" + close).is("law()", -108);
        }
        lawIs("((((((1-1-1-1-1-1-1-1))))))", 1);
        lawIs("((((((1--1))))))", -108);
        lawIs("(((((!1+!1+-1--1)))))", 1);
        lawIs("(((((!1+(!1))))))", -109);
        lawIs("!1+!1+!1+!1+!1+!1+!1+!1", 1);
        lawIs("((((((1))))))+((((((1))))))-((((((1))))))", 1);
        lawIs("((((((1)))))+(1))", 1);
        lawIs("((((((1)))))+((1))", -118);
        lawIs("((((((1)))))+((1)))", 1);
        lawIs("((((((1)))))+((((((1", -118);
    }

    private static void minutesBetween() {
        DUE.says("d minutes between the CRY and the FALL (without sign)");
        Run run = Edge.empty(DUE).does("fall(0, 0); fall(0, 999); cry(0, 0); cry(0, 999); cry(0, 1)").law("d");
        run.are("counts(0); counts(1); counts(2); counts(100); counts(101); counts(102)", 0, 999, 1, 999, 0, 998);
    }

    private static void names() {
        DUE.says("w WHAT, k WISH, l LOUD");
        Run run = Edge.empty(DUE).does("fall(0, 0); fall(0, 0); cry(0, 0); cry(0, 0); mend(1, 9, 1); mend(1, 12, 2)");
        run.law("100*w+10*k+l").are("counts(0); counts(1); counts(100); counts(101)", 5, 25, 105, 125);
        run.does("mend(0, 9, 3); mend(0, 12, 3); mend(0, 13, 9)").is("counts(0)", 339);
        run.does("mend(0, 9, 0); mend(0, 12, 0); mend(0, 13, 0)").is("counts(0)", 0);
    }

    private static void atHome() {
        DUE.says("h 1 if who cried is the OWNER of the FIELD in which it fell, else 0");
        Run run = Edge.empty(DUE).does("fall(0, 0); cry(0, 0); cry(5, 0)").law("h").are("counts(0); counts(1)", 0, 0);
        run.does("field(0, 101)").are("counts(0); counts(1)", 0, 0);
        run.does("mend(0, 4, 0)").are("counts(0); counts(1)", 1, 0);
        run.does("mend(0, 4, 5)").are("counts(0); counts(1)", 0, 1);
        run.does("give(0, -1)").are("counts(0); counts(1)", 0, 0);
        run.does("give(0, 0); mend(0, 0, 1)").are("counts(0); counts(1)", 0, 0);
        run.does("field(0, 101); mend(1, 4, 5)").are("counts(0); counts(1)", 0, 1);
        run.does("mend(0, 0, 0)").are("counts(0); counts(1)", 1, 0);
    }

    private static void aheadOfTheFall() {
        DUE.says("s 1 if the CRY came ahead of the FALL, else 0.");
        Run run = Edge.empty(DUE).does("fall(0, 500); cry(0, 499); cry(0, 500); cry(0, 501); cry(0, 0); cry(0, 999)").law("s");
        run.are("counts(0); counts(1); counts(2); counts(3); counts(4)", 1, 0, 0, 1, 0);
        Edge.empty(DUE).does("fall(0, 0); cry(0, 0)").law("s+7").is("counts(0)", 7);
        Edge.empty(DUE).does("fall(0, 999); cry(0, 999); cry(0, 998)").law("s").are("counts(0); counts(1)", 0, 1);
    }

    private static void wrap() {
        DUE.says("Ints that wrap;");
        String most = "(8*8*8*8*8*8*8*8*8*8*2-1)";
        String least = "(8*8*8*8*8*8*8*8*8*8*2)";
        countIs(most, MAX);
        countIs(least, MIN);
        countIs(most + "+1", MIN);
        countIs(most + "+9999", MIN + 9998);
        countIs(least + "-1", MAX);
        countIs("-" + least, MIN);
        countIs("-" + most, MIN + 1);
        countIs("--" + least, MIN);
        countIs(most + "*2", -2);
        countIs(least + "*2", 0);
        countIs(least + "*-1", MIN);
        countIs(most + "*" + most, 1);
        countIs(least + "*" + least, 0);
        countIs(least + "+" + least, 0);
        countIs("9999*9999*9999", 9999 * 9999 * 9999);
    }

    private static void towardZero() {
        DUE.says("/ and % toward 0, by 0 they give 0");
        int[] values = {-9, -7, -3, -2, -1, 0, 1, 2, 3, 7, 9};
        for (int a : values) {
            for (int b : values) {
                long cut = b == 0 ? 0 : (long) (Math.signum(a) * Math.signum(b) * (Math.abs(a) / Math.abs(b)));
                countIs("(" + a + ")/(" + b + ")", (int) cut);
                countIs("(" + a + ")%(" + b + ")", b == 0 ? 0 : (int) (a - cut * b));
            }
        }
        String least = "(8*8*8*8*8*8*8*8*8*8*2)";
        countIs(least + "/-1", MIN);
        countIs(least + "%-1", 0);
        countIs(least + "/0", 0);
        countIs(least + "%0", 0);
        countIs("(" + least + "-1)/0", 0);
        countIs("0/0", 0);
        countIs("0%0", 0);
        countIs("5/d", 0);
        countIs("5%d+3", 3);
        countIs("1/0|1", 1);
    }

    private static void oneOrZero() {
        DUE.says("| & < = > ! give 1, 0; all is worked out.");
        int[] values = {-9999, -1, 0, 1, 2, 9999};
        for (int a : values) {
            countIs("!(" + a + ")", a == 0 ? 1 : 0);
            countIs("!!(" + a + ")", a == 0 ? 0 : 1);
            for (int b : values) {
                String one = "(" + a + ")";
                String other = "(" + b + ")";
                countIs(one + "|" + other, a != 0 || b != 0 ? 1 : 0);
                countIs(one + "&" + other, a != 0 && b != 0 ? 1 : 0);
                countIs(one + "<" + other, a < b ? 1 : 0);
                countIs(one + "=" + other, a == b ? 1 : 0);
                countIs(one + ">" + other, a > b ? 1 : 0);
            }
        }
        countIs("0&1/0", 0);
        countIs("1|1/0", 1);
        countIs("2&4", 1);
        countIs("4|2", 1);
    }

    private static void firstLineCounts() {
        DUE.says("The first LINE without a first E, or whose first E is not 0, counts; none: 0.");
        countIs("0?1;0?2;0?3", 0);
        countIs("0?1;0?2;3?4", 4);
        countIs("0?1;7?2;3?4", 2);
        countIs("0?1;5;3?4", 5);
        countIs("0?1;0;3?4", 0);
        countIs("1?0;9", 0);
        countIs("0;9", 0);
        countIs("-1?3;9", 3);
        countIs("8*8*8*8*8*8*8*8*8*8*2?3;9", 3);
        countIs("0?1;".repeat(29) + "7", 7);
        countIs("0?9999;1;2", 1);
    }

    private static void fault() {
        DUE.says("the length, if it ends too early.");
        String[] early = {"", "1;", "1?", "1|", "1&", "1<", "1=", "1>", "1+", "1-", "1*", "1/", "1%", "!", "-", "(", "(1", "!(", "(1+",
            "(1)?", "1?(2", "1;(2", "((((((", "((((((1", "((((((1)))))"};
        for (String text : early) {
            lawIs(text, -100 - text.length());
        }
        lawIs("1+".repeat(60), -220);
        lawIs("+".repeat(120), -100);
        lawIs("1".repeat(120), -104);
    }

    private static void notAtAll() {
        DUE.says("It gives how much a CRY COUNTS for a FALL (0 or below: not at all).");
        int[] laws = {-9999, -2, -1, 0, 1, 2, 9999};
        for (int counts : laws) {
            Run run = Edge.empty(DUE).does("fall(0, 0); cry(0, 0)").law("0+" + counts).is("counts(0)", counts);
            run.are("whose(0, 2); whose(0, 3); whose(0, 4)", counts > 0 ? 1 : 0, counts > 0 ? 1 : 0, Math.max(counts, 0));
        }
        Run most = Edge.empty(DUE).does("fall(0, 0); cry(0, 0)").law("8*8*8*8*8*8*8*8*8*8*2-1");
        most.are("counts(0); whose(0, 2); whose(0, 4)", MAX, 1, MAX);
        Run least = Edge.empty(DUE).does("fall(0, 0); cry(0, 0)").law("8*8*8*8*8*8*8*8*8*8*2");
        least.are("counts(0); whose(0, 2); whose(0, 4)", MIN, 0, 0);
    }

    private static void withoutAText() {
        DUE.says("Without a text: 10 and l less d, and 3 if w is k; 0 if h.");
        Run run = Edge.empty(DUE).does("fall(0, 0); cry(0, 0); mend(0, 12, 1)").is("counts(0)", 15);
        run.does("mend(0, 13, 0)").is("counts(0)", 10).does("mend(0, 13, 9)").is("counts(0)", 19);
        run.does("mend(0, 11, 18)").is("counts(0)", 1).is("whose(0, 2)", 1);
        run.does("mend(0, 11, 19)").is("counts(0)", 0).is("whose(0, 2)", 0);
        run.does("mend(0, 11, 20)").is("counts(0)", -1).is("whose(0, 4)", 0);
        run.does("mend(0, 11, 999)").is("counts(0)", -980).does("mend(0, 9, 1)").is("counts(0)", -977);
        run.does("field(0, 101); mend(0, 4, 0)").is("counts(0)", 0).does("mend(0, 11, 0)").is("counts(0)", 0);
        run.does("mend(0, 4, 1)").is("counts(0)", 22);
    }

    private static void countsOf() {
        DUE.says("`int counts(int fc)`: How much a CRY COUNTS for a FALL (fc: 100 times the FALL, and the CRY). VOID: BAD.");
        Edge.empty(DUE).keepsEach("counts(?)", VOID, MIN, -1, 0, 1, 100, MAX);
        Edge.empty(DUE).does("fall(0, 0)").keepsEach("counts(?)", VOID, -1, 0, 100);
        Edge.empty(DUE).does("cry(0, 0)").keepsEach("counts(?)", VOID, -1, 0, 100);
        Run some = Edge.some(DUE).keepsEach("counts(?)", VOID, MIN, -202, -100, -1, 3, 99, 103, 199, 203, 299, 300, 302, 1000, MAX);
        some.keeps("counts(0)", 24).keeps("counts(202)", -176);
        Run full = Edge.full(DUE).keepsEach("counts(?)", VOID, MIN, -1, 12, 99, 112, 912, 999, 1000, 1011, MAX);
        full.keeps("counts(0)", 14).keeps("counts(911)", 13).keeps("counts(11)", -5);
    }

    private static void have() {
        DUE.says("The CRIES that COUNT most for a FALL HAVE it (several, if they are alike; none, if none COUNTS).");
        Run run = Edge.empty(DUE).does("fall(0, 100)").are("whose(0, 2); whose(0, 3); whose(0, 4)", 0, 0, 0).law("6-d");
        for (int cry = 0; cry < 12; cry++) {
            run.does("cry(0, 100)");
            run.are("whose(0, 2); whose(0, 3); whose(0, 4)", cry + 1, (1 << cry + 1) - 1, 6);
        }
        run.does("mend(0, 11, 101)").are("whose(0, 2); whose(0, 3); whose(0, 4)", 11, 4094, 6);
        run.does("mend(11, 11, 99)").are("whose(0, 2); whose(0, 3); whose(0, 4)", 10, 2046, 6);
        for (int cry = 1; cry < 11; cry++) {
            run.does("mend(" + cry + ", 11, 106)");
        }
        run.are("whose(0, 2); whose(0, 3); whose(0, 4)", 2, 2049, 5).does("mend(0, 11, 200)");
        run.are("whose(0, 2); whose(0, 3); whose(0, 4)", 1, 2048, 5).does("mend(11, 11, 94)");
        run.are("whose(0, 2); whose(0, 3); whose(0, 4)", 0, 0, 0);
    }

    private static void finder() {
        DUE.says("The FINDER is the OWNER of the FIELD in which it fell (NOT: nobody, or in none).");
        Run run = Edge.empty(DUE).does("fall(0, 0)").are("whose(0, 0); whose(0, 1)", NOT, NOT);
        run.does("field(0, 101)").are("whose(0, 0); whose(0, 1)", 0, NOT);
        run.does("mend(0, 4, 0)").are("whose(0, 0); whose(0, 1)", 0, 0);
        run.does("field(0, 2020); mend(1, 4, 5)").are("whose(0, 0); whose(0, 1)", 0, 0);
        run.does("give(0, -1)").are("whose(0, 0); whose(0, 1)", 0, NOT);
        run.does("mend(0, 1, 1)").are("whose(0, 0); whose(0, 1)", 1, 5);
    }

    private static void owes() {
        DUE.says("The FINDER OWES 12 twelfths of a wish, shared alike (12 by how many, cut) among the CRIES that HAVE it, to those who "
                + "cried them (what it would owe itself is none).");
        int[] share = {12, 6, 4, 3, 2, 2, 1, 1, 1, 1, 1, 1};
        Run run = Edge.empty(DUE).does("field(0, 101); mend(0, 4, 0); fall(0, 0)").law("1").is("owed(-1)", 0);
        for (int many = 1; many <= 12; many++) {
            run.does("cry(1, 0)").is("owed(1)", many * share[many - 1]).is("owed(-1)", many * share[many - 1]);
        }
        for (int cry = 0; cry < 12; cry++) {
            run.does("mend(" + cry + ", 10, 0)").are("owed(1); owed(0); owed(-1); owed(-11)", 11 - cry, 0, 11 - cry, 0);
        }
        run.does("mend(0, 4, -1)").are("owed(1); owed(-11)", 0, 0).does("mend(0, 4, 5)").are("owed(50); owed(-11)", 12, 12);
        run.does("mend(0, 0, 1)").are("owed(50); owed(-11)", 0, 0);
    }
}
