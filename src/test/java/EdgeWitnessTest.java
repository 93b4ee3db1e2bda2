/** Boundaries of sight, ears, years and draws, sentence by sentence: promises 22 to 26. */
public final class EdgeWitnessTest {
    private static final Due DUE = new Due("EdgeWitnessTest");
    private static final int BAD = Edge.BAD;
    private static final int NOT = Edge.NOT;
    private static final int STATE = Edge.STATE;
    private static final int MIN = Edge.MIN;
    private static final int MAX = Edge.MAX;

    public static void main(String[] args) {
        refusals();
        sight();
        asItMayBe();
        wholeSteps();
        lacks();
        firstCell();
        fieldsOfIt();
        ask();
        ears();
        heard();
        earsAsTheyMayBe();
        judge();
        yearByBytes();
        whoseCry();
        minutesOfACry();
        criesFull();
        drawn();
        nightsByDraws();
        DUE.end();
    }

    private static void refusals() {
        DUE.says("---- sight, ears, years (BAD, -11, -12).");
        String[] bytes = {"sight(?, 0)", "sight(?, 1)", "sight(?, 2)", "sight(?, 3)", "judge(?)", "whoseCry(?, 0, 0)", "whoseCry(?, 0, 1)"};
        String[] shorts = {"ears(?, 0)", "ears(?, 1)", "ears(?, 2)"};
        for (Run run : new Run[] {Edge.empty(DUE), Edge.some(DUE), Edge.full(DUE)}) {
            for (String call : bytes) {
                run.keepsEach(call, BAD, Edge.NO_SHELF);
            }
            for (String call : shorts) {
                run.keepsEach(call, BAD, Edge.NO_SHELF);
            }
            run.keepsEach("sight(5, ?)", BAD, MIN, -1, 4, MAX).keepsEach("sight(0, ?)", BAD, MIN, -1, 4, MAX);
            run.keepsEach("ears(5, ?)", BAD, MIN, -1, 3, MAX).keepsEach("ears(1, ?)", BAD, MIN, -1, 3, MAX);
            run.keepsEach("whoseCry(5, 0, ?)", BAD, MIN, -1, 2, MAX).keepsEach("whoseCry(2, 0, ?)", BAD, MIN, -1, 2, MAX);
        }
        for (String call : bytes) {
            Edge.empty(DUE).keepsEach(call, Edge.NOTHING, 0, 1, 2, 3, 4, 5);
            Edge.some(DUE).keepsEach(call, Edge.NOTHING, 5).keepsEach(call, Edge.OTHER_KIND, 0, 1, 3, 4);
        }
        for (String call : shorts) {
            Edge.empty(DUE).keepsEach(call, Edge.NOTHING, 0, 1, 2, 3, 4, 5);
            Edge.some(DUE).keepsEach(call, Edge.NOTHING, 5).keepsEach(call, Edge.OTHER_KIND, 0, 2, 3, 4);
            Edge.full(DUE).keepsEach(call, Edge.OTHER_KIND, 0, 2, 3, 4, 5);
        }
        Edge.full(DUE).keepsEach("judge(?)", Edge.OTHER_KIND, 1, 2, 3, 4, 5).keepsEach("sight(?, 0)", Edge.OTHER_KIND, 1, 2, 3, 4, 5);
        Edge.some(DUE).does("row(2, 2, 4)").is("sight(2, 0)", Edge.OTHER_KIND).is("ears(2, 0)", Edge.OTHER_KIND);
    }

    private static void sight() {
        DUE.says("`int sight(int shelf, int what)`: SIGHT: how many (what 0), the first (1; NOT), FIELDS (2), ASK (3; NOT).");
        Run some = Edge.some(DUE);
        some.keeps("sight(2, 0)", 1).keeps("sight(2, 1)", 64).keeps("sight(2, 2)", 1).keeps("sight(2, 3)", 0);
        some.does("put(2, 6, 0)").keeps("sight(2, 0)", 0).keeps("sight(2, 1)", NOT).keeps("sight(2, 2)", 0).keeps("sight(2, 3)", NOT);
    }

    private static void seen(int many, int first, long... row) {
        Edge.empty(DUE).row(5, 0, row).are("sight(5, 0); sight(5, 1)", many, first);
        if (many == 0) {
            Edge.empty(DUE).does("field(0, 2020)").row(5, 0, row).are("sight(5, 2); sight(5, 3)", 0, NOT);
        }
    }

    private static void asItMayBe() {
        DUE.says("SIGHT: a ROW of bytes on a SHELF: by fours from X, Y (0 .. 19) in a direction DX, DY (-9 .. 9, not both 0)");
        seen(1, 0, 0, 0, -1, -1);
        seen(1, 19, 19, 0, 1, -1);
        seen(1, 380, 0, 19, -1, 1);
        seen(1, 399, 19, 19, 1, 1);
        seen(3, 0, 0, 0, 9, 9);
        seen(3, 21, 19, 19, -9, -9);
        seen(3, 0, 0, 0, 9, 0);
        seen(3, 0, 0, 0, 0, 9);
        seen(1, 0, 0, 0, -9, 0);
        seen(1, 0, 0, 0, 0, -9);
        for (long v : new long[] {-128, -2, -1, 20, 21, 127}) {
            seen(0, NOT, v, 0, 1, 1);
            seen(0, NOT, 0, v, 1, 1);
            seen(0, NOT, 0, 0, 1, 1, v, 0, 1, 1);
            seen(0, NOT, 0, 0, 1, 1, 0, v, 1, 1);
        }
        for (long v : new long[] {-128, -11, -10, 10, 11, 127}) {
            seen(0, NOT, 5, 5, v, 1);
            seen(0, NOT, 5, 5, 1, v);
            seen(0, NOT, 5, 5, 1, 1, 5, 5, v, 1);
            seen(0, NOT, 5, 5, v, 0);
        }
        seen(0, NOT, 5, 5, 0, 0);
        seen(0, NOT, 0, 0, 0, 0);
        seen(0, NOT, 5, 5, 1, 1, 5, 5, 0, 0);
        seen(1, 0, 256, 512, -1, -1);
    }

    private static void wholeSteps() {
        DUE.says("somebody there saw it fall on that line (on the CELL itself, or as many whole steps of DX, DY as one likes on from it)");
        seen(20, 0, 0, 0, 1, 0);
        seen(20, 0, 0, 0, 0, 1);
        seen(20, 0, 0, 0, 1, 1);
        seen(20, 0, 19, 19, -1, -1);
        seen(20, 0, 19, 0, -1, 0);
        seen(20, 19, 0, 19, 1, -1);
        seen(10, 0, 0, 0, 2, 0);
        seen(10, 0, 0, 0, 2, 1);
        seen(7, 0, 0, 0, 3, 2);
        seen(1, 0, 0, 0, 1, 0, 0, 0, 0, 1);
        seen(0, NOT, 1, 0, 2, 0, 0, 0, 2, 0);
        seen(19, 1, 0, 0, 1, 0, 1, 0, 1, 0);
        seen(2, 4, 0, 0, 1, 0, 5, 0, -1, 0, 4, 0, 1, 0);
        seen(5, 0, 0, 0, 2, 0, 0, 0, 4, 0);
        seen(1, 399, 0, 0, 1, 1, 19, 0, 0, 1);
    }

    private static void lacks() {
        DUE.says("How many CELLS it may have been by all of them (0: also if one is not as it may be, or lacks)");
        for (int length = 0; length <= 60; length++) {
            long[] row = new long[length];
            for (int i = 2; i < length; i += 4) {
                row[i] = 1;
            }
            seen(length == 0 ? 400 : length % 4 == 0 ? 20 : 0, length % 4 == 0 ? 0 : NOT, row);
        }
    }

    private static void firstCell() {
        DUE.says("the first by Y, then X (20 Y and X; NOT)");
        seen(3, 19, 1, 2, 9, -1);
        seen(3, 18, 0, 2, 9, -1);
        seen(4, 5, 8, 3, -1, -1);
        seen(400, 0);
        seen(0, NOT, 1);
    }

    private static void fieldsOfIt() {
        DUE.says("in which FIELDS (bits).");
        Run run = Edge.empty(DUE).row(0, 0, 0, 3, 1, 0).is("sight(0, 2)", 0);
        for (int field = 0; field < 8; field++) {
            run.is("field(" + (60 + 2 * field) + ", 101)", field).is("sight(0, 2)", (1 << field + 1) - 1);
        }
        run.does("mend(0, 2, 20)").is("sight(0, 2)", 1).does("mend(0, 2, 19)").is("sight(0, 2)", 1);
        run.does("mend(7, 0, 19)").is("sight(0, 2)", 129).does("mend(0, 1, 4)").is("sight(0, 2)", 254);
    }

    private static void ask() {
        DUE.says("ASK: from which CELL of row Y 0 straight down (DX 0, DY 1) one more is best asked: in whose column as near to half of "
                + "them as may be lies (of like ones the least X): X; NOT: none may be.");
        int[][] due = {{0}, {0, 5, 0, 0, 1}, {0, 0, 5, 1, 0}, {1, 19, 19, -9, -9}, {1, 1, 0, 9, 9}, {10, 10, 14, 9, -9}, {17, 17, 0, 2, 9},
            {0, 19, 0, 1, -1}, {1, 19, 5, -9, 0}, {5, 14, 9, -9, 9}, {NOT, 5, 5, 0, 0}, {NOT, 1}, {NOT, 0, 0, 1, 0, 0, 1, 1, 0}};
        for (int[] d : due) {
            long[] row = new long[d.length - 1];
            for (int i = 1; i < d.length; i++) {
                row[i - 1] = d[i];
            }
            Edge.empty(DUE).row(0, 0, row).is("sight(0, 3)", d[0]);
        }
    }

    private static void ears() {
        DUE.says("`int ears(int shelf, int what)`: EARS: how many (what 0; 0 also if one is not as it may be, or lacks, or none heard it), "
                + "the first (1; NOT), the minute (2; NOT).");
        Run run = Edge.empty(DUE).row(0, 1, 0, 0, 1).keeps("ears(0, 0)", 3).keeps("ears(0, 1)", 0).keeps("ears(0, 2)", 1);
        run.does("put(0, 2, -1)").keeps("ears(0, 0)", 0).keeps("ears(0, 1)", NOT).keeps("ears(0, 2)", NOT);
        for (int length = 0; length <= 60; length++) {
            boolean whole = length > 0 && length % 3 == 0;
            Run zeros = Edge.empty(DUE).does("row(5, 1, " + length + ")");
            zeros.are("ears(5, 0); ears(5, 1); ears(5, 2)", whole ? 1 : 0, whole ? 0 : NOT, whole ? 0 : NOT);
        }
    }

    private static void heardIs(int many, int first, int minute, long... row) {
        Edge.empty(DUE).row(5, 1, row).are("ears(5, 0); ears(5, 1); ears(5, 2)", many, first, minute);
    }

    private static void heard() {
        DUE.says("the minute it was heard (a cry goes a CELL a minute, X and Y apart together): how many CELLS there are from which it was "
                + "cried so that all heard it as told (in one minute for all, 0 or later); the first (as above; NOT); the minute it was "
                + "cried then (NOT).");
        heardIs(1, 0, 0, 0, 0, 0);
        heardIs(1, 399, 0, 19, 19, 0);
        heardIs(3, 379, 0, 19, 19, 1);
        heardIs(399, 1, 0, 19, 19, 37);
        heardIs(400, 0, 0, 19, 19, 38);
        heardIs(400, 0, 1, 19, 19, 39);
        heardIs(399, 0, 37, 0, 0, 37);
        heardIs(400, 0, 32767, 0, 0, 32767);
        heardIs(400, 0, 961, 0, 0, 961);
        heardIs(0, NOT, NOT, 0, 0, -1);
        heardIs(0, NOT, NOT, 0, 0, -32768);
        heardIs(0, NOT, NOT, 0, 0, 5, 0, 0, 6);
        heardIs(0, NOT, NOT, 0, 0, 0, 1, 0, 0);
        heardIs(1, 0, 0, 0, 0, 0, 1, 0, 1);
        heardIs(0, NOT, NOT, 0, 0, 50, 1, 0, 52);
        heardIs(20, 0, 50, 0, 0, 50, 1, 0, 51);
        heardIs(1, 21, 0, 0, 1, 1, 2, 1, 1, 1, 0, 1);
        heardIs(1, 21, 4, 0, 1, 5, 2, 1, 5, 1, 0, 5, 1, 2, 5, 1, 1, 4);
        heardIs(0, NOT, NOT, 0, 0, 40, 2, 0, 40, 0, 2, 39);
    }

    private static void earsAsTheyMayBe() {
        DUE.says("EARS: a ROW of shorts: by threes X, Y (0 .. 19)");
        for (long v : new long[] {-32768, -1, 20, 21, 32767}) {
            heardIs(0, NOT, NOT, v, 0, 50);
            heardIs(0, NOT, NOT, 0, v, 50);
            heardIs(0, NOT, NOT, 0, 0, 50, v, 0, 50);
            heardIs(0, NOT, NOT, 0, 0, 50, 0, v, 50);
        }
        heardIs(400, 0, 50, 65536, 131072, 50);
        heardIs(400, 0, 31, 19, 0, 50);
        heardIs(400, 0, 31, 0, 19, 50);
    }

    /** Four falls of which 1 is paid for the first alone, several for the second, nobody for the others. */
    private static Run year() {
        return Edge.empty(DUE).does("field(0, 2010); mend(0, 4, 0); fall(0, 100); fall(0, 200); fall(399, 300); fall(0, 900)",
                "cry(1, 100); cry(1, 200); cry(2, 200); cry(3, 300)");
    }

    private static void judge() {
        DUE.says("`int judge(int shelf)`: JUDGED. NOT.");
        Run run = year().row(0, 0, 1, -1, -1, -1).keeps("judge(0)", NOT).does("put(0, 3, 1)").keeps("judge(0)", 3);
        run.does("put(0, 0, 2)").keeps("judge(0)", 0);
        Edge.empty(DUE).does("row(0, 0, 0)").keeps("judge(0)", NOT).does("row(0, 0, 1)").keeps("judge(0)", 0);
        Edge.empty(DUE).does("row(0, 0, 60)").keeps("judge(0)", 0).does("put(0, 0, -1)").keeps("judge(0)", 0);
    }

    private static void yearByBytes() {
        DUE.says("YEAR: a ROW of bytes: FALL by FALL the one who was paid for it alone (0 .. 5), or -1 (nobody, or several): JUDGED: the "
                + "first FALL that is not so (one that is none, too); NOT.");
        long[] so = {1, -1, -1, -1};
        for (int fall = 0; fall < 4; fall++) {
            for (long v : new long[] {-128, -2, -1, 0, 1, 2, 3, 4, 5, 6, 127}) {
                long[] row = so.clone();
                row[fall] = v;
                year().row(0, 0, row).is("judge(0)", v == so[fall] ? NOT : fall);
            }
        }
        for (int length = 0; length <= 60; length++) {
            Run run = Edge.empty(DUE);
            for (int fall = 0; fall < 10; fall++) {
                run.does("fall(0, 0)");
            }
            run.does("row(0, 0, " + length + ")");
            for (int i = 0; i < length; i++) {
                run.does("put(0, " + i + ", -1)");
            }
            run.is("judge(0)", length <= 10 ? NOT : 10);
        }
        for (int one = 0; one <= 5; one++) {
            Run run = Edge.empty(DUE).does("field(0, 101); mend(0, 4, " + (one == 0 ? 5 : 0) + "); fall(0, 0); cry(" + one + ", 0)");
            run.row(0, 0, one).is("judge(0)", NOT).does("put(0, 0, -1)").is("judge(0)", 0).does("put(0, 0, " + (one + 1) + ")").is("judge(0)", 0);
        }
    }

    private static void whoseCry() {
        DUE.says("`int whoseCry(int shelf, int wl, int what)`: WHOSE CRY (wl: 100 times who, 10 times the WISH, and LOUD): how many (what "
                + "0), the least (1; NOT). STATE: CRIES are FULL.");
        long[] noCry = {MIN, -1, -9, 40, 49, 50, 90, 99, 140, 540, 599, 600, 601, 609, 639, 700, 999, 1000, MAX};
        for (Run run : new Run[] {Edge.empty(DUE), Edge.some(DUE), Edge.full(DUE), year().does("row(0, 0, 0)")}) {
            for (int shelf = 0; shelf < 3; shelf++) {
                run.keepsEach("whoseCry(" + shelf + ", ?, 0)", BAD, noCry);
            }
            run.keepsEach("whoseCry(0, ?, 1)", BAD, noCry);
        }
        Run run = year().row(0, 0, 4, -1);
        run.keeps("whoseCry(0, 409, 0)", 7).keeps("whoseCry(0, 409, 1)", 97).keeps("whoseCry(0, 405, 0)", 0).keeps("whoseCry(0, 405, 1)", NOT);
        run.does("row(0, 0, 0)").each("whoseCry(0, ?, 0)", 1000, 0, 9, 30, 39, 500, 509, 530, 539);
        run.each("whoseCry(0, ?, 1)", 0, 0, 9, 30, 39, 500, 509, 530, 539);
        Run each = Edge.empty(DUE).does("field(0, 101); mend(0, 4, 0); fall(0, 7)").row(0, 0, 5).law("d=0&k=3&l=9");
        each.is("whoseCry(0, 539, 0)", 1).is("whoseCry(0, 539, 1)", 7).each("whoseCry(0, ?, 0)", 0, 538, 529, 439, 39, 39);
        each.does("put(0, 0, 1)").law("d=0&k=0&l=0").is("whoseCry(0, 100, 0)", 1).each("whoseCry(0, ?, 0)", 0, 101, 110, 200, 0);
    }

    private static void minutesOfACry() {
        DUE.says("WHOSE CRY: if one more CRY, as LOUD and of a WISH as told, came in a minute (0 .. 999) from one of the people: how many "
                + "minutes make the YEAR so; the least; NOT.");
        Run run = Edge.empty(DUE).does("field(0, 101); mend(0, 4, 0); fall(0, 0)").row(0, 0, 1).law("d=0");
        run.are("whoseCry(0, 105, 0); whoseCry(0, 105, 1)", 1, 0).does("mend(0, 8, 999)");
        run.are("whoseCry(0, 105, 0); whoseCry(0, 105, 1)", 1, 999).law("d=999");
        run.are("whoseCry(0, 105, 0); whoseCry(0, 105, 1)", 1, 0).law("1");
        run.are("whoseCry(0, 105, 0); whoseCry(0, 105, 1)", 1000, 0).law("d>0");
        run.are("whoseCry(0, 105, 0); whoseCry(0, 105, 1)", 999, 0).law("0");
        run.are("whoseCry(0, 105, 0); whoseCry(0, 105, 1)", 0, NOT).law("!s");
        run.are("whoseCry(0, 105, 0); whoseCry(0, 105, 1)", 1, 999).does("put(0, 0, -1)");
        run.are("whoseCry(0, 105, 0); whoseCry(0, 105, 1)", 999, 0).does("put(0, 0, 6)");
        run.are("whoseCry(0, 105, 0); whoseCry(0, 105, 1)", 0, NOT).row(0, 0, -1, -1);
        run.are("whoseCry(0, 105, 0); whoseCry(0, 105, 1)", 0, NOT).does("fall(0, 0)").law("d=0");
        run.are("whoseCry(0, 105, 0); whoseCry(0, 105, 1)", 998, 1).does("put(0, 1, 1)");
        run.are("whoseCry(0, 105, 0); whoseCry(0, 105, 1)", 1, 0).does("put(0, 0, 1)").is("whoseCry(0, 105, 0)", 0);
        run.does("mend(1, 8, 999)").are("whoseCry(0, 105, 0); whoseCry(0, 105, 1)", 1, 999).is("count(2)", 0);
    }

    private static void criesFull() {
        DUE.says("STATE: CRIES are FULL.");
        Run run = Edge.empty(DUE).does("row(0, 0, 0); row(1, 1, 0); body(0); keep(2, 0)");
        for (int cry = 0; cry < 12; cry++) {
            run.is("whoseCry(0, 0, 0)", 1000).is("whoseCry(3, 0, 0)", Edge.NOTHING).is("whoseCry(1, 0, 0)", Edge.OTHER_KIND);
            run.does("cry(0, 0)");
        }
        run.keeps("whoseCry(0, 0, 0)", STATE).keeps("whoseCry(0, 539, 1)", STATE).keeps("judge(0)", NOT);
        // The calls' heading names -11 and -12, and the promise behind it STATE.
        run.keeps("whoseCry(3, 0, 0)", Edge.NOTHING).keeps("whoseCry(1, 0, 0)", Edge.OTHER_KIND).keeps("whoseCry(2, 0, 1)", Edge.OTHER_KIND);
        run.keepsEach("whoseCry(?, 0, 0)", BAD, Edge.NO_SHELF).keeps("whoseCry(3, 600, 0)", BAD).keeps("whoseCry(3, 0, 2)", BAD);
    }

    private static void drawn() {
        DUE.says("`int drawn(int seed, int nm, int what, int one)`: DRAWN (nm: 100 n and m): how many (what 0), OWED by one (1). BAD.");
        for (Run run : new Run[] {Edge.empty(DUE), Edge.some(DUE), Edge.full(DUE)}) {
            run.keepsEach("drawn(0, ?, 0, 0)", BAD, MIN, -3020, -101, -1, 0, 1, 20, 99, 100, 121, 199, 3000, 3021, 3099, 3100, 3101, MAX);
            run.keepsEach("drawn(0, 101, ?, 0)", BAD, MIN, -1, 2, MAX).keepsEach("drawn(0, 101, 1, ?)", BAD, MIN, -1, 6, MAX);
            run.keepsEach("drawn(0, 0, 1, ?)", BAD, MIN, -1, 0, 6, MAX);
        }
        for (long one : new long[] {MIN, -1, 0, 5, 6, MAX}) {
            Edge.empty(DUE).keeps("drawn(0, 101, 0, " + one + ")", 0);
        }
        Edge.empty(DUE).each("drawn(0, 3020, 1, ?)", 0, 0, 5).each("drawn(?, 101, 0, 0)", 0, MIN, -1, 0, MAX);
        Edge.full(DUE).keeps("drawn(7, 3020, 1, 5)", owedByFieldFive(7, 600));
    }

    /**
     * What 5 owes in the full state: its field 5 is at X 5, Y 11, behind fields 0 to 4, and by "l+9-d/50" a cry of 0 or 1 has
     * whatever falls in minutes 0 to 59.
     */
    private static int owedByFieldFive(int seed, int falls) {
        int owes = 0;
        int z = seed;
        for (int i = 0; i < falls; i++) {
            z = z * 1103515245 + 12345;
            int first = NOT;
            for (int field = 5; field >= 0; field--) {
                int right = (z >>> 8) % 20 - 45 * field % 20;
                int down = (z >>> 14) % 20 - 45 * field / 20;
                first = right >= 0 && right <= field && down >= 0 && down < 20 - field ? field : first;
            }
            owes += first == 5 ? 12 : 0;
        }
        return owes;
    }

    private static void nightsByDraws() {
        DUE.says("DRAWN: n nights (1 .. 30) of m FALLS (1 .. 20) by a SEED: z = z * 1103515245 + 12345 (an int; SEED at first) ahead of "
                + "each: it falls at X (z >>> 8) % 20, Y (z >>> 14) % 20, MINUTE (z >>> 19) % 60, WHAT (z >>> 27) % 4, CRIES as they are");
        int[] seeds = {MIN, MIN + 1, -77, -1, 0, 1, 7, 12345, MAX - 1, MAX};
        int[] nights = {101, 120, 3001, 3020, 1713};
        for (int seed : seeds) {
            for (int nm : nights) {
                drawnAre(seed, nm);
            }
        }
    }

    private static void drawnAre(int seed, int nm) {
        int[] had = new int[5];
        int z = seed;
        for (int i = 0; i < nm / 100 * (nm % 100); i++) {
            z = z * 1103515245 + 12345;
            had[0] += (z >>> 8) % 20 < 9 ? 1 : 0;
            had[1] += (z >>> 14) % 20 < 9 ? 1 : 0;
            had[2] += (z >>> 19) % 60 < 30 ? 1 : 0;
            had[3] += (z >>> 19) % 60 == 59 ? 1 : 0;
            had[4] += (z >>> 27) % 4 == 3 ? 1 : 0;
        }
        String call = "drawn(" + seed + ", " + nm + ", ";
        Run run = Edge.empty(DUE).does("field(0, 920); mend(0, 4, 5); cry(0, 30); fall(0, 0)").law("1");
        run.is(call + "0, 0)", had[0]).is(call + "1, 5)", 12 * had[0]).is(call + "1, 0)", 0);
        run.does("mend(0, 2, 20); mend(0, 3, 9)").is(call + "0, 0)", had[1]).is(call + "1, 5)", 12 * had[1]);
        run.does("mend(0, 3, 20)").law("d>0&!s").is(call + "0, 0)", had[2]).law("d=29&s").is(call + "0, 0)", had[3]);
        run.law("w=3").is(call + "0, 0)", had[4]).is(call + "1, 5)", 12 * had[4]);
        run.is("count(1)", 1).does("mend(0, 4, -1)").is(call + "0, 0)", 0);
    }
}
