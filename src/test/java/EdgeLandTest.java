/** The land's boundaries, sentence by sentence: promises 1 to 7 and 11. */
public final class EdgeLandTest {
    private static final Due DUE = new Due("EdgeLandTest");
    private static final int BAD = Edge.BAD;
    private static final int NOT = Edge.NOT;
    private static final int FULL = Edge.FULL;
    private static final int VOID = Edge.VOID;
    private static final int MIN = Edge.MIN;
    private static final int MAX = Edge.MAX;

    public static void main(String[] args) {
        stillNight();
        cells();
        at();
        fieldsAsTheyCome();
        field();
        theLeast();
        wideAndDeep();
        beyondTheLand();
        owner();
        price();
        leastNumberHasIt();
        fallsAsTheyCome();
        fall();
        minuteOfAFall();
        whatOfAFall();
        criesAsTheyCome();
        cry();
        numbersOfACry();
        mend();
        of();
        fallsFromARow();
        fallsFromARowEnd();
        fallsFromARowAreNotAsTheyMayBe();
        fallsFromARowTillFull();
        DUE.end();
    }

    private static void stillNight() {
        DUE.says("`FellInField()`: A land without fields, a still night.");
        Run run = Edge.empty(DUE);
        for (int what = 0; what <= 6; what++) {
            run.is("count(" + what + ")", 0);
        }
        for (int xy = 0; xy < 400; xy++) {
            run.is("at(" + xy + ")", NOT);
        }
        run.are("who(0); who(1); who(2); who(3); who(4)", NOT, NOT, 0, NOT, 0);
        run.are("owed(0); owed(55); owed(-1); owed(-6); owed(-11); owed(-16)", 0, 0, 0, 0, 0, 0);
        run.are("led(0); led(1); led(2); led(3); led(100); led(155)", 0, 0, 0, 0, 0, 0);
        run.are("trace(0); back(); undo(); redo(); law()", BAD, Edge.STATE, Edge.STATE, Edge.STATE, -100);
        for (int shelf = 0; shelf < 6; shelf++) {
            run.is("taken(" + shelf + ", 0)", Edge.NOTHING);
        }
    }

    private static void cells() {
        DUE.says("THE LAND has CELLS X, Y (0 .. 19).");
        Run run = Edge.empty(DUE).are("field(0, 101); field(19, 101); field(380, 101); field(399, 101)", 0, 1, 2, 3);
        run.are("of(0, 0); of(0, 1); of(1, 0); of(1, 1)", 0, 0, 19, 0);
        run.are("of(2, 0); of(2, 1); of(3, 0); of(3, 1)", 0, 19, 19, 19);
        run.are("at(0); at(19); at(380); at(399)", 0, 1, 2, 3);
        run.each("at(?)", NOT, 1, 18, 20, 21, 39, 360, 379, 381, 398);
        run.are("fall(0, 0); fall(19, 0); fall(380, 0); fall(399, 0)", 0, 1, 2, 3);
        run.are("of(1, 6); of(1, 7); of(2, 6); of(2, 7); of(3, 6); of(3, 7)", 19, 0, 0, 19, 19, 19);
    }

    private static void at() {
        DUE.says("`int at(int xy)`: The FIELD of a CELL. BAD; NOT.");
        for (Run run : new Run[] {Edge.empty(DUE), Edge.some(DUE), Edge.full(DUE)}) {
            run.keepsEach("at(?)", BAD, MIN, -400, -20, -1, 400, 419, MAX);
        }
        Edge.some(DUE).keeps("at(0)", NOT).keeps("at(399)", NOT).keeps("at(42)", 0).keeps("at(380)", 2);
    }

    private static void fieldsAsTheyCome() {
        DUE.says("FIELDS 0 .. 7, as they come");
        Run run = Edge.empty(DUE);
        for (int i = 0; i < 8; i++) {
            run.keeps("of(" + i + ", 0)", VOID).keeps("mend(" + i + ", 5, 1)", VOID);
            run.is("field(" + 21 * i + ", 101)", i).is("count(0)", i + 1);
        }
        for (int i = 0; i < 8; i++) {
            run.is("of(" + i + ", 0)", i).is("at(" + 21 * i + ")", i);
        }
        run.keepsEach("of(?, 0)", VOID, MIN, -1, 8, MAX);
    }

    private static void field() {
        DUE.says("`int field(int xy, int wd)`: A FIELD at X, Y (xy), WIDE and DEEP (wd: 100 WIDE and DEEP): its number. BAD, FULL: 8.");
        for (Run run : new Run[] {Edge.empty(DUE), Edge.some(DUE), Edge.full(DUE)}) {
            run.keepsEach("field(?, 101)", BAD, MIN, -400, -1, 400, MAX);
            run.keepsEach("field(0, ?)", BAD, Edge.NO_SIZE);
        }
        Edge.full(DUE).keeps("field(0, 101)", FULL).keeps("field(399, 2020)", FULL);
        Run seven = Edge.empty(DUE).does("field(0, 101); field(0, 101); field(0, 101); field(0, 101); field(0, 101); field(0, 101)");
        seven.does("field(0, 101)").is("field(0, 101)", 7).keeps("field(0, 101)", FULL).is("count(0)", 8);
    }

    /** The least and the most are taken, what is next to them or far off is not. */
    private static void numberOf(int what, int least, int most, int atFirst) {
        Run run = Edge.empty(DUE).does("field(0, 101); field(0, 101); fall(0, 0); fall(0, 0); cry(0, 0); cry(0, 0)");
        run.is("of(1, " + what + ")", atFirst);
        run.keepsEach("mend(1, " + what + ", ?)", VOID, MIN, least - 1, most + 1, MAX);
        run.is("mend(1, " + what + ", " + most + ")", atFirst).is("of(1, " + what + ")", most);
        run.is("mend(1, " + what + ", " + least + ")", most).is("of(1, " + what + ")", least);
        run.is("mend(1, " + what + ", " + (least + 1) + ")", least).is("mend(1, " + what + ", " + (most - 1) + ")", least + 1);
        run.keepsEach("mend(1, " + what + ", ?)", VOID, MIN, least - 1, most + 1, MAX);
        run.is("of(1, " + what + ")", most - 1).is("of(0, " + what + ")", atFirst);
    }

    private static void theLeast() {
        DUE.says("X, Y (0 .. 19: the least)");
        numberOf(0, 0, 19, 0);
        numberOf(1, 0, 19, 0);
        Run run = Edge.empty(DUE).is("field(105, 302)", 0);
        run.are("at(105); at(107); at(125); at(127)", 0, 0, 0, 0);
        run.each("at(?)", NOT, 104, 108, 85, 87, 124, 128, 145, 147);
    }

    private static void wideAndDeep() {
        DUE.says("WIDE, DEEP (1 .. 20; what is beyond the LAND is not there)");
        numberOf(2, 1, 20, 1);
        numberOf(3, 1, 20, 1);
        Run run = Edge.empty(DUE).are("field(0, 101); field(0, 120); field(0, 2001); field(0, 2020)", 0, 1, 2, 3);
        run.are("of(0, 2); of(0, 3); of(1, 2); of(1, 3)", 1, 1, 1, 20);
        run.are("of(2, 2); of(2, 3); of(3, 2); of(3, 3)", 20, 1, 20, 20);
    }

    private static void beyondTheLand() {
        DUE.says("what is beyond the LAND is not there");
        Run corner = Edge.empty(DUE).is("field(399, 2020)", 0);
        Run right = Edge.empty(DUE).is("field(119, 2001)", 0);
        Run down = Edge.empty(DUE).is("field(385, 120)", 0);
        for (int xy = 0; xy < 400; xy++) {
            corner.is("at(" + xy + ")", xy == 399 ? 0 : NOT);
            right.is("at(" + xy + ")", xy == 119 ? 0 : NOT);
            down.is("at(" + xy + ")", xy == 385 ? 0 : NOT);
        }
        corner.are("of(0, 2); of(0, 3)", 20, 20).does("mend(0, 0, 0)");
        for (int xy = 0; xy < 400; xy++) {
            corner.is("at(" + xy + ")", xy >= 380 ? 0 : NOT);
        }
    }

    private static void owner() {
        DUE.says("OWNER (0 .. 5, or -1: nobody, as at first)");
        numberOf(4, -1, 5, -1);
        Run run = Edge.empty(DUE).does("field(0, 101); fall(0, 0)").is("whose(0, 1)", NOT);
        for (int one = 0; one <= 5; one++) {
            run.is("mend(0, 4, " + one + ")", one - 1).is("whose(0, 1)", one);
        }
        run.is("mend(0, 4, -1)", 5).is("whose(0, 1)", NOT);
    }

    private static void price() {
        DUE.says("PRICE (0 .. 99; 10 at first)");
        numberOf(5, 0, 99, 10);
    }

    private static void leastNumberHasIt() {
        DUE.says("A CELL is in the FIELD of least number that has it (NOT: in none).");
        Run run = Edge.empty(DUE);
        for (int i = 0; i < 8; i++) {
            run.is("field(0, " + (101 * (i + 1)) + ")", i);
        }
        for (int i = 0; i < 8; i++) {
            run.is("at(" + 21 * i + ")", i).is("at(" + i + ")", i).is("at(" + 20 * i + ")", i);
        }
        run.are("at(8); at(160); at(168)", NOT, NOT, NOT);
        run.does("mend(0, 0, 19)").are("at(0); at(19); at(1)", 1, 0, 1);
        run.does("mend(7, 2, 20); mend(7, 3, 20)").are("at(0); at(8); at(399)", 1, 7, 7);
    }

    private static void fallsAsTheyCome() {
        DUE.says("FALLS 0 .. 9, as they come: X, Y (0 .. 19)");
        Run run = Edge.empty(DUE);
        for (int i = 0; i < 10; i++) {
            run.keeps("of(" + i + ", 6)", VOID).keeps("mend(" + i + ", 8, 1)", VOID).keeps("find(" + i + ")", BAD);
            run.is("fall(" + 21 * i + ", " + i + ")", i).is("count(1)", i + 1);
        }
        for (int i = 0; i < 10; i++) {
            run.is("of(" + i + ", 6)", i).is("of(" + i + ", 7)", i).is("of(" + i + ", 8)", i);
        }
        run.keepsEach("of(?, 6)", VOID, MIN, -1, 10, MAX);
        numberOf(6, 0, 19, 0);
        numberOf(7, 0, 19, 0);
    }

    private static void fall() {
        DUE.says("`int fall(int xy, int minute)`: A FALL at X, Y: its number. BAD, FULL: 10.");
        for (Run run : new Run[] {Edge.empty(DUE), Edge.some(DUE), Edge.full(DUE)}) {
            run.keepsEach("fall(?, 0)", BAD, MIN, -400, -1, 400, MAX);
            run.keepsEach("fall(0, ?)", BAD, MIN, -1, 1000, MAX);
        }
        Edge.full(DUE).keeps("fall(0, 0)", FULL).keeps("fall(399, 999)", FULL);
        Run nine = Edge.empty(DUE).does("fall(0, 0); fall(0, 0); fall(0, 0); fall(0, 0); fall(0, 0); fall(0, 0); fall(0, 0); fall(0, 0)");
        nine.does("fall(0, 0)").is("fall(0, 0)", 9).keeps("fall(0, 0)", FULL).is("count(1)", 10);
    }

    private static void minuteOfAFall() {
        DUE.says("MINUTE (0 .. 999; 0 at first), WHAT");
        numberOf(8, 0, 999, 0);
        Edge.empty(DUE).are("fall(399, 999); fall(0, 0)", 0, 1).are("of(0, 8); of(1, 8)", 999, 0);
    }

    private static void whatOfAFall() {
        DUE.says("WHAT (0 nail, 1 hinge, 2 spoon, 3 nothing; 0 at first)");
        numberOf(9, 0, 3, 0);
    }

    private static void criesAsTheyCome() {
        DUE.says("CRIES 0 .. 11, as they come");
        Run run = Edge.empty(DUE);
        for (int i = 0; i < 12; i++) {
            run.keeps("of(" + i + ", 10)", VOID).keeps("mend(" + i + ", 13, 1)", VOID).keeps("bestCry(" + i + ", 0)", BAD);
            run.is("cry(" + i % 6 + ", " + i + ")", i).is("count(2)", i + 1);
        }
        for (int i = 0; i < 12; i++) {
            run.is("of(" + i + ", 10)", i % 6).is("of(" + i + ", 11)", i);
        }
        run.keepsEach("of(?, 10)", VOID, MIN, -1, 12, MAX);
    }

    private static void cry() {
        DUE.says("`int cry(int who, int minute)`: A CRY: its number. BAD, FULL: 12.");
        for (Run run : new Run[] {Edge.empty(DUE), Edge.some(DUE), Edge.full(DUE)}) {
            run.keepsEach("cry(?, 0)", BAD, MIN, -1, 6, MAX);
            run.keepsEach("cry(0, ?)", BAD, MIN, -1, 1000, MAX);
        }
        Edge.full(DUE).keeps("cry(0, 0)", FULL).keeps("cry(5, 999)", FULL);
        Run eleven = Edge.empty(DUE).does("cry(0, 0); cry(0, 0); cry(0, 0); cry(0, 0); cry(0, 0); cry(0, 0); cry(0, 0); cry(0, 0)");
        eleven.does("cry(0, 0); cry(0, 0); cry(0, 0)").is("cry(0, 0)", 11).keeps("cry(0, 0)", FULL).is("count(2)", 12);
    }

    private static void numbersOfACry() {
        DUE.says("WHO (0 .. 5), MINUTE (0 .. 999), WISH (0 .. 3; 0 at first), LOUD (0 .. 9; 5 at first).");
        numberOf(10, 0, 5, 0);
        numberOf(11, 0, 999, 0);
        numberOf(12, 0, 3, 0);
        numberOf(13, 0, 9, 5);
        Run run = Edge.empty(DUE).are("cry(0, 0); cry(5, 999)", 0, 1);
        run.are("of(1, 10); of(1, 11); of(1, 12); of(1, 13)", 5, 999, 0, 5);
    }

    private static void mend() {
        DUE.says("`int mend(int number, int what, int v)`: X (what 0), Y (1), WIDE (2), DEEP (3), OWNER (4), PRICE (5) of a FIELD, "
                + "X (6), Y (7), MINUTE (8), WHAT (9) of a FALL, WHO (10), MINUTE (11), WISH (12), LOUD (13) of a CRY becomes v: "
                + "what it was. VOID: BAD.");
        Run none = Edge.empty(DUE);
        for (int what = -1; what <= 15; what++) {
            none.keeps("mend(0, " + what + ", 1)", VOID);
        }
        Run some = Edge.some(DUE);
        Run full = Edge.full(DUE);
        for (int what = 0; what <= 13; what++) {
            some.keepsEach("mend(?, " + what + ", 1)", VOID, MIN, -1, 3, MAX);
            full.keepsEach("mend(?, " + what + ", 1)", VOID, MIN, -1, what < 6 ? 8 : what < 10 ? 10 : 12, MAX);
        }
        some.keepsEach("mend(0, ?, 0)", VOID, MIN, -1, 14, 15, MAX);
        full.keepsEach("mend(0, ?, 0)", VOID, MIN, -1, 14, 15, MAX);
        Run last = new Run(full).is("mend(7, 5, 99)", 59).is("mend(9, 8, 999)", 900).is("mend(11, 13, 0)", 5);
        last.are("of(7, 5); of(9, 8); of(11, 13)", 99, 999, 0);
        eachIsItsOwn();
    }

    /** Fourteen numbers of one field, fall and cry, all unlike: none is taken for another. */
    private static void eachIsItsOwn() {
        int[] v = {3, 4, 6, 7, 5, 44, 8, 9, 222, 1, 2, 333, 3, 0};
        int[] was = {0, 0, 1, 1, -1, 10, 0, 0, 0, 0, 0, 0, 0, 5};
        Run run = Edge.empty(DUE).does("field(0, 101); field(0, 101); fall(0, 0); fall(0, 0); cry(0, 0); cry(0, 0)");
        for (int what = 0; what < 14; what++) {
            run.is("mend(1, " + what + ", " + v[what] + ")", was[what]);
        }
        for (int what = 0; what < 14; what++) {
            run.is("of(1, " + what + ")", v[what]).is("of(0, " + what + ")", was[what]);
        }
        run.is("of(1, 14)", 0);
    }

    private static void of() {
        DUE.says("`int of(int number, int what)`: As of mend() (0 to 13); of a FALL 14 whether it is found in deed. VOID: BAD.");
        Run none = Edge.empty(DUE);
        for (int what = -1; what <= 15; what++) {
            none.keeps("of(0, " + what + ")", VOID);
        }
        Run some = Edge.some(DUE);
        Run full = Edge.full(DUE);
        for (int what = 0; what <= 14; what++) {
            some.keepsEach("of(?, " + what + ")", VOID, MIN, -1, 3, MAX);
            full.keepsEach("of(?, " + what + ")", VOID, MIN, -1, what < 6 ? 8 : what < 10 || what == 14 ? 10 : 12, MAX);
        }
        some.keepsEach("of(0, ?)", VOID, MIN, -1, 15, MAX);
        some.are("of(0, 14); of(1, 14); of(2, 14)", 1, 1, 0).keeps("of(0, 14)", 1).keeps("of(0, 0)", 2);
        full.are("of(0, 14); of(1, 14); of(9, 14)", 1, 1, 0).is("find(9)", 12).is("of(9, 14)", 1);
    }

    private static void fallsFromARow() {
        DUE.says("`int falls(int shelf, int i, int n)`: FALLS FROM A ROW on a SHELF, from place i on, n (1 .. 10) of them: how many came "
                + "(0 with i below 0). BAD, -12 (no ROW of shorts; a SHELF that holds nothing is missing).");
        for (Run run : new Run[] {Edge.empty(DUE), Edge.some(DUE), Edge.full(DUE)}) {
            run.keepsEach("falls(?, 0, 1)", BAD, Edge.NO_SHELF);
            run.keepsEach("falls(1, 0, ?)", BAD, MIN, -1, 0, 11, MAX);
            run.keepsEach("falls(?, -1, 0)", BAD, 0, 1, 2, 5);
        }
        Edge.empty(DUE).keepsEach("falls(?, 0, 1)", 0, 0, 5).keeps("falls(0, MAX, 10)", 0).keeps("falls(0, -1, 10)", 0);
        Run some = Edge.some(DUE);
        some.keepsEach("falls(?, 0, 1)", Edge.OTHER_KIND, 0, 2, 3, 4).keepsEach("falls(?, -1, 1)", Edge.OTHER_KIND, 0, 2, 3, 4);
        some.keeps("falls(5, 0, 10)", 0).keepsEach("falls(1, ?, 1)", 0, MIN, -3, -1, 5, 6, 7, 60, MAX - 2, MAX - 1, MAX);
        Edge.full(DUE).keepsEach("falls(?, 0, 1)", Edge.OTHER_KIND, 0, 2, 3, 4, 5);
        Run ints = Edge.empty(DUE).does("row(0, 2, 3)").keeps("falls(0, 0, 1)", Edge.OTHER_KIND);
        ints.does("row(0, 1, 3)").is("falls(0, 0, 1)", 1);
        Run ten = Edge.empty(DUE).does("row(5, 1, 60)").is("falls(5, 0, 10)", 10).is("count(1)", 10);
        ten.keeps("falls(5, 0, 1)", 0);
        Edge.empty(DUE).does("row(5, 1, 60)").is("falls(5, 0, 1)", 1).is("count(1)", 1);
    }

    private static void fallsFromARowEnd() {
        DUE.says("it ends where the row is missing, ends (within a three, too)");
        for (int length = 0; length <= 10; length++) {
            Run run = Edge.empty(DUE).does("row(0, 1, " + length + ")");
            run.is("falls(0, 0, 10)", length / 3).is("count(1)", length / 3);
        }
        for (int i = 0; i <= 9; i++) {
            Edge.empty(DUE).row(0, 1, 1, 2, 3, 4, 5, 6, 7, 8, 9).is("falls(0, " + i + ", 10)", (9 - i) / 3);
        }
        Run last = Edge.empty(DUE).does("row(0, 1, 60); put(0, 57, 19); put(0, 58, 18); put(0, 59, 17)").is("falls(0, 57, 10)", 1);
        last.are("of(0, 6); of(0, 7); of(0, 8); of(0, 9); of(0, 14)", 19, 18, 17, 0, 0);
        last.keepsEach("falls(0, ?, 10)", 0, 58, 59, 60, 61);
    }

    private static void fallsFromARowAreNotAsTheyMayBe() {
        DUE.says("one is not as it may be, or FALLS are FULL: those ahead came.");
        long[][] wrong = {{-1, 0, 0}, {20, 0, 0}, {0, -1, 0}, {0, 20, 0}, {0, 0, -1}, {0, 0, 1000}, {32767, 0, 0}, {-32768, 0, 0},
            {0, 32767, 0}, {0, -32768, 0}, {0, 0, 32767}, {0, 0, -32768}};
        for (long[] w : wrong) {
            Run first = Edge.empty(DUE).row(0, 1, w[0], w[1], w[2], 1, 1, 1);
            first.keeps("falls(0, 0, 1)", 0).keeps("falls(0, 0, 10)", 0);
            Run between = Edge.empty(DUE).row(0, 1, 1, 1, 1, w[0], w[1], w[2], 2, 2, 2);
            between.is("falls(0, 0, 10)", 1).is("count(1)", 1).is("of(0, 8)", 1);
            between.is("falls(0, 0, 1)", 1).is("falls(0, 6, 1)", 1).is("count(1)", 3).is("of(2, 8)", 2);
        }
        Run edges = Edge.empty(DUE).row(0, 1, 0, 0, 0, 19, 19, 999, 19, 0, 999, 0, 19, 0).is("falls(0, 0, 10)", 4);
        edges.are("of(1, 6); of(1, 7); of(1, 8); of(3, 6); of(3, 7); of(3, 8)", 19, 19, 999, 0, 19, 0);
    }

    private static void fallsFromARowTillFull() {
        DUE.says("or FALLS are FULL: those ahead came.");
        for (int ahead = 0; ahead <= 10; ahead++) {
            Run run = Edge.empty(DUE).does("row(0, 1, 30)");
            for (int i = 0; i < ahead; i++) {
                run.is("fall(399, 9)", i);
            }
            run.is("falls(0, 0, 10)", 10 - ahead).is("count(1)", 10).is("of(9, 8)", ahead == 10 ? 9 : 0);
            run.keeps("falls(0, 0, 10)", 0).keeps("fall(0, 0)", FULL);
        }
    }
}
