/** Boundaries of deeds, the image and changes, sentence by sentence: promises 27 to 34. */
public final class EdgeDeedTest {
    private static final Due DUE = new Due("EdgeDeedTest");
    private static final int BAD = Edge.BAD;
    private static final int STATE = Edge.STATE;
    private static final int VOID = Edge.VOID;
    private static final int MIN = Edge.MIN;
    private static final int MAX = Edge.MAX;

    public static void main(String[] args) {
        find();
        findOnce();
        pay();
        payAtMost();
        give();
        giveToNobody();
        led();
        image();
        imageKeeps();
        back();
        laidBack();
        undo();
        redo();
        theSameIsNone();
        allNumbersOfMend();
        latestFirst();
        noOtherCameBehind();
        fortyAreKept();
        deedsAreNone();
        calls();
        DUE.end();
    }

    /** The whole land is 0's, with ten falls that 1 has alone. */
    private static Run night() {
        Run run = Edge.empty(DUE).does("field(0, 2020); mend(0, 4, 0); cry(1, 0)").law("1");
        for (int fall = 0; fall < 10; fall++) {
            run.is("fall(" + fall + ", 0)", fall);
        }
        return run;
    }

    private static void find() {
        DUE.says("`int find(int fall)`: FIND: twelfths that its FINDER OWES by it (0: none). BAD; STATE: it is found.");
        Edge.empty(DUE).keepsEach("find(?)", BAD, MIN, -1, 0, 1, MAX);
        Edge.some(DUE).keepsEach("find(?)", BAD, MIN, -1, 3, MAX).keepsEach("find(?)", STATE, 0, 1).is("find(2)", 0).keeps("find(2)", STATE);
        Edge.full(DUE).keepsEach("find(?)", BAD, MIN, -1, 10, MAX).keepsEach("find(?)", STATE, 0, 1);
        Run run = night();
        for (int fall = 0; fall < 10; fall++) {
            run.is("find(" + fall + ")", 12).keeps("find(" + fall + ")", STATE).is("led(0)", fall + 1).is("led(101)", 12 * fall + 12);
            run.is("of(" + fall + ", 14)", 1);
        }
        run.is("owed(1)", 120);
    }

    private static void findOnce() {
        DUE.says("FIND a FALL (once): its FINDER OWES by it");
        Run nobody = night().does("mend(0, 4, -1)").is("find(0)", 0).keeps("find(0)", STATE).is("led(101)", 0).is("led(0)", 1);
        nobody.does("mend(0, 4, 0)").keeps("find(0)", STATE).is("find(1)", 12);
        Run none = night().law("0").is("find(0)", 0).law("1").keeps("find(0)", STATE).is("led(101)", 0).is("of(0, 14)", 1);
        Run itself = night().does("mend(0, 10, 0)").is("find(0)", 0).is("led(100)", 0).is("led(0)", 1);
        Run fifths = night().does("cry(2, 0); cry(3, 0); cry(0, 0); cry(1, 0)").is("find(9)", 8);
        fifths.are("led(101); led(102); led(103); led(100)", 4, 2, 2, 0);
        Run stays = night().is("find(0)", 12).does("mend(0, 10, 5); mend(0, 4, 3)").law("0").are("led(101); led(135)", 12, 0);
    }

    private static void pay() {
        DUE.says("`int pay(int ab, int n)`: PAY (ab, unlike) n twelfths (1 .. 999): what a OWES b then. BAD; STATE: it OWES less.");
        for (Run run : new Run[] {Edge.empty(DUE), Edge.some(DUE), Edge.full(DUE)}) {
            run.keepsEach("pay(?, 1)", BAD, Edge.NO_PAIR).keepsEach("pay(?, 1)", BAD, MIN, -13, -10, -1, 0, 11, 22, 33, 44, 55);
            run.keepsEach("pay(13, ?)", BAD, MIN, -999, -1, 0, 1000, MAX).keepsEach("pay(11, ?)", BAD, MIN, 0, 1, 999, 1000, MAX);
        }
        Edge.empty(DUE).keepsEach("pay(1, ?)", STATE, 1, 2, 999).keepsEach("pay(?, 1)", STATE, 5, 10, 50, 54);
        Edge.some(DUE).keepsEach("pay(13, ?)", STATE, 5, 999).keepsEach("pay(?, 1)", STATE, 31, 3, 10, 1).is("pay(13, 4)", 0);
    }

    private static void payAtMost() {
        DUE.says("PAY: one pays another twelfths (as much as it OWES in deed at most)");
        Run run = night().keeps("pay(1, 1)", STATE).is("find(0)", 12).keeps("pay(1, 13)", STATE).keeps("pay(10, 1)", STATE);
        run.is("pay(1, 1)", 11).is("pay(1, 10)", 1).keeps("pay(1, 2)", STATE).is("pay(1, 1)", 0).keeps("pay(1, 1)", STATE);
        run.are("led(1); led(2); led(101)", 3, 12, 0);
        for (int fall = 1; fall < 10; fall++) {
            run.does("find(" + fall + ")");
        }
        run.is("led(101)", 108).keeps("pay(1, 109)", STATE).keeps("pay(1, 999)", STATE).is("pay(1, 108)", 0);
        run.are("led(1); led(2); led(101); owed(1)", 4, 120, 0, 120).keeps("pay(1, 1)", STATE);
    }

    private static void give() {
        DUE.says("`int give(int field, int one)`: GIVE a FIELD: whose it was. VOID: BAD.");
        Edge.empty(DUE).keepsEach("give(?, 0)", VOID, MIN, -1, 0, MAX);
        Edge.some(DUE).keepsEach("give(?, 0)", VOID, MIN, -1, 3, MAX).keepsEach("give(0, ?)", VOID, MIN, -2, 6, MAX);
        Edge.full(DUE).keepsEach("give(?, 0)", VOID, MIN, -1, 8, MAX).keepsEach("give(7, ?)", VOID, MIN, -2, 6, MAX).is("give(7, 5)", 3);
    }

    private static void giveToNobody() {
        DUE.says("GIVE a FIELD to somebody (-1: nobody).");
        Run run = Edge.empty(DUE).does("field(0, 101)").are("give(0, -1); give(0, 0); give(0, 5); give(0, -1)", -1, -1, 0, 5);
        run.are("of(0, 4); led(3); count(4)", -1, 4, 0).is("give(0, 3)", -1).is("of(0, 4)", 3);
    }

    private static void led() {
        DUE.says("`int led(int what)`: LED: found (what 0), payments (1), twelfths paid (2), gifts (3), what a OWES b in deed (100 and ab). BAD.");
        for (Run run : new Run[] {Edge.empty(DUE), Edge.some(DUE), Edge.full(DUE)}) {
            run.keepsEach("led(?)", BAD, MIN, -100, -1, 4, 5, 55, 99, 106, 109, 116, 156, 159, 160, 165, 199, 200, 201, MAX);
            run.are("led(100); led(111); led(122); led(133); led(144); led(155)", 0, 0, 0, 0, 0, 0);
        }
        Run some = Edge.some(DUE).keeps("led(0)", 2).keeps("led(1)", 1).keeps("led(2)", 2).keeps("led(3)", 1).keeps("led(113)", 4);
        some.are("led(120); led(150); led(105); led(131)", 12, 0, 0, 0);
    }

    private static void image() {
        DUE.says("`int image()`: AN IMAGE is kept: found ones.");
        Edge.empty(DUE).are("image(); back()", 0, 0);
        Run run = night();
        for (int fall = 0; fall < 10; fall++) {
            run.is("image()", fall).does("find(" + fall + ")").is("back()", fall).does("find(" + fall + ")");
        }
        run.are("image(); back()", 10, 10);
    }

    private static void imageKeeps() {
        DUE.says("AN IMAGE keeps what is found, OWED in deed, OWNERS, what LED tells.");
        Run run = night().does("find(3); pay(1, 5); give(0, 0); image(); find(4); find(5); pay(1, 9); give(0, 2); give(0, -1)");
        run.are("led(0); led(1); led(2); led(3); led(101); of(0, 4)", 3, 2, 14, 3, 22, -1).is("back()", 1);
        run.are("led(0); led(1); led(2); led(3); led(101); of(0, 4)", 1, 1, 5, 1, 7, 0);
        run.are("of(3, 14); of(4, 14); find(3); find(4)", 1, 0, STATE, 12);
        Run owners = Edge.full(DUE).is("image()", 2);
        for (int field = 0; field < 8; field++) {
            owners.does("give(" + field + ", " + (field == 0 ? -1 : 4) + ")");
        }
        owners.is("back()", 2);
        int[] whose = {0, 1, 2, 3, 4, 5, 0, 3};
        for (int field = 0; field < 8; field++) {
            owners.is("of(" + field + ", 4)", whose[field]);
        }
        Run mended = night().does("image(); mend(0, 4, 5); mend(0, 5, 44); mend(0, 6, 9); mend(0, 13, 1)").law("2").is("back()", 0);
        mended.are("of(0, 4); of(0, 5); of(0, 6); of(0, 13); counts(0); count(4)", 0, 44, 9, 1, 2, 5);
    }

    private static void back() {
        DUE.says("`int back()`: It is laid back (FALLS that came since are not found, FIELDS that came since stay as they are): found "
                + "ones. STATE: there is none.");
        Edge.empty(DUE).keeps("back()", STATE).does("image()").is("back()", 0).is("back()", 0);
        Run none = night().does("find(0); pay(1, 1); give(0, 3)").keeps("back()", STATE);
        Run run = Edge.empty(DUE).does("field(0, 2020); mend(0, 4, 0); fall(0, 0); cry(1, 0); find(0); image()");
        run.does("field(0, 101); mend(1, 4, 5); give(1, 4); fall(1, 0); find(1); field(0, 101)").is("back()", 1);
        run.are("of(0, 4); of(1, 4); of(2, 4); of(0, 14); of(1, 14); led(0); count(0); count(1)", 0, 4, -1, 1, 0, 1, 3, 2);
        Run bare = Edge.empty(DUE).does("image(); field(0, 101); mend(0, 4, 3); fall(0, 0); find(0)").is("back()", 0);
        bare.are("of(0, 4); of(0, 14); find(0)", 3, 0, 0);
    }

    private static void laidBack() {
        DUE.says("It is laid back");
        Run run = night().does("image(); find(0)").is("back()", 0).keeps("back()", 0).is("find(0)", 12).is("image()", 1).is("find(1)", 12);
        run.is("back()", 1).are("of(0, 14); of(1, 14); led(101)", 1, 0, 12).keeps("back()", 1);
        run.does("find(1); find(2)").is("back()", 1).does("find(1)").is("back()", 1);
    }

    private static void undo() {
        DUE.says("`int undo()`: UNDONE: how many may still be. STATE: none.");
        Edge.empty(DUE).keeps("undo()", STATE);
        night().is("undo()", 0).keeps("undo()", STATE).is("of(0, 4)", -1);
        Run some = Edge.some(DUE);
        for (int left = 4; left >= 0; left--) {
            some.is("count(4)", left + 1).is("undo()", left);
        }
        some.keeps("undo()", STATE).are("of(0, 4); of(1, 4); of(1, 5); of(1, 13); of(0, 9)", -1, -1, 10, 5, 0);
    }

    private static void redo() {
        DUE.says("`int redo()`: DONE AGAIN: how many may still be. STATE: none.");
        Edge.empty(DUE).keeps("redo()", STATE);
        night().keeps("redo()", STATE).is("undo()", 0).is("redo()", 0).keeps("redo()", STATE).is("of(0, 4)", 0);
        Run some = Edge.some(DUE).are("redo(); redo()", 1, 0).keeps("redo()", STATE).are("of(0, 5); of(2, 12); count(4)", 33, 3, 7);
        Edge.full(DUE).keeps("redo()", STATE);
    }

    private static void theSameIsNone() {
        DUE.says("telling the same number is none");
        Run run = Edge.some(DUE);
        int[][] same = {{0, 0, 2}, {0, 1, 2}, {0, 2, 5}, {0, 3, 5}, {0, 4, 1}, {0, 5, 10}, {0, 6, 4}, {0, 7, 3}, {0, 8, 100}, {0, 9, 2},
            {0, 10, 3}, {0, 11, 101}, {0, 12, 0}, {0, 13, 5}, {2, 4, -1}, {1, 4, 5}};
        for (int[] s : same) {
            run.keeps("mend(" + s[0] + ", " + s[1] + ", " + s[2] + ")", s[2]);
        }
        Run full = Edge.full(DUE).keeps("mend(0, 5, 60)", 60).keeps("mend(7, 4, 3)", 3);
    }

    private static void allNumbersOfMend() {
        DUE.says("CHANGES (all numbers of mend(); telling the same number is none) can be UNDONE, the latest first, and DONE AGAIN");
        int[] v = {3, 4, 6, 7, 5, 44, 8, 9, 222, 1, 2, 333, 3, 0};
        int[] was = {0, 0, 1, 1, -1, 10, 0, 0, 0, 0, 0, 0, 0, 5};
        Run run = Edge.empty(DUE).does("field(0, 101); field(0, 101); fall(0, 0); fall(0, 0); cry(0, 0); cry(0, 0)");
        for (int what = 0; what < 14; what++) {
            run.is("mend(1, " + what + ", " + v[what] + ")", was[what]).is("count(4)", what + 1);
        }
        for (int what = 13; what >= 0; what--) {
            run.is("of(1, " + what + ")", v[what]).is("undo()", what).is("of(1, " + what + ")", was[what]).is("count(4)", what);
        }
        for (int what = 0; what < 14; what++) {
            run.is("of(1, " + what + ")", was[what]).is("redo()", 13 - what).is("of(1, " + what + ")", v[what]).is("of(0, " + what + ")", was[what]);
        }
    }

    private static void latestFirst() {
        DUE.says("can be UNDONE, the latest first");
        Run run = Edge.empty(DUE).does("cry(0, 0); mend(0, 13, 1); mend(0, 13, 2); mend(0, 13, 1); mend(0, 13, 3)");
        run.are("undo(); of(0, 13); undo(); of(0, 13); undo(); of(0, 13); undo(); of(0, 13); undo()", 3, 1, 2, 2, 1, 1, 0, 5, STATE);
        run.are("redo(); of(0, 13); redo(); of(0, 13); redo(); of(0, 13); redo(); of(0, 13); redo()", 3, 1, 2, 2, 1, 1, 0, 3, STATE);
    }

    private static void noOtherCameBehind() {
        DUE.says("DONE AGAIN (as long as no other came behind)");
        Run base = Edge.empty(DUE).does("field(0, 101); mend(0, 5, 1); mend(0, 5, 2); mend(0, 5, 3); undo(); undo()");
        new Run(base).are("mend(0, 4, 0); redo(); count(4); undo(); undo(); undo()", -1, STATE, 2, 1, 0, STATE);
        new Run(base).are("mend(0, 5, 2); redo(); count(4)", 1, STATE, 2);
        new Run(base).are("mend(0, 5, 1); redo(); of(0, 5); redo(); of(0, 5)", 1, 1, 2, 0, 3);
        new Run(base).are("mend(0, 5, 100); mend(1, 5, 1); redo(); redo(); redo()", VOID, VOID, 1, 0, STATE);
        new Run(base).are("redo(); mend(0, 5, 9); redo(); undo(); of(0, 5); redo(); of(0, 5)", 1, 2, STATE, 2, 2, 0, 9);
    }

    private static void fortyAreKept() {
        DUE.says("40 at most are kept");
        for (int changes : new int[] {39, 40, 41, 42, 80, 81, 99}) {
            Run run = Edge.empty(DUE).does("cry(0, 0)");
            for (int minute = 1; minute <= changes; minute++) {
                run.is("mend(0, 11, " + minute + ")", minute - 1).is("count(4)", Math.min(minute, 40));
            }
            int kept = Math.min(changes, 40);
            Run other = new Run(run);
            for (int left = kept - 1; left >= 0; left--) {
                run.is("undo()", left).is("of(0, 11)", changes - kept + left);
            }
            run.keeps("undo()", STATE).is("count(4)", 0);
            Run anew = new Run(run);
            for (int left = kept - 1; left >= 0; left--) {
                run.is("redo()", left).is("of(0, 11)", changes - left);
            }
            run.keeps("redo()", STATE).is("count(4)", kept);
            run.is("mend(0, 11, 999)", changes).is("count(4)", Math.min(changes + 1, 40)).is("undo()", Math.min(changes, 39));
            anew.is("mend(0, 11, 999)", changes - kept).keeps("redo()", STATE).is("count(4)", 1).are("undo(); undo()", 0, STATE);
            other.are("undo(); redo(); redo()", kept - 1, 0, STATE).is("count(4)", kept);
        }
    }

    private static void deedsAreNone() {
        DUE.says("deeds are none");
        Run run = night().does("mend(0, 5, 7); undo()").are("find(0); pay(1, 1); give(0, 5); image(); back()", 12, 11, 0, 1, 1);
        run.are("count(4); redo(); of(0, 5); count(4)", 1, 0, 7, 2);
        run.are("undo(); undo(); of(0, 4); undo()", 1, 0, -1, STATE).are("led(0); led(1); led(3)", 1, 1, 1);
        run.are("redo(); of(0, 4)", 1, 0);
        Run others = night().does("mend(0, 5, 7); undo(); field(0, 101); cry(0, 0); body(0); keep(0, 0); row(1, 0, 3); put(1, 0, 1)");
        others.law("3").does("act(0, 0, 0); shift(1, 0, 1, 1, 1)").are("redo(); of(0, 5)", 0, 7);
    }

    private static void calls() {
        DUE.says("An object is used for at most 512 calls after it has been made; what later calls answer is free.");
        Run gifts = Edge.empty(DUE).does("field(0, 101)");
        for (int gift = 0; gift < 510; gift++) {
            gifts.is("give(0, " + gift % 6 + ")", gift == 0 ? -1 : (gift + 5) % 6);
        }
        gifts.is("led(3)", 510);
        Run payments = night();
        payments.does("find(0); find(1); find(2); find(3); find(4); find(5); find(6); find(7); find(8); find(9); image()");
        for (int i = 1; i <= 120; i++) {
            payments.is("pay(1, 1)", 120 - i);
        }
        payments.keeps("pay(1, 1)", STATE).are("led(1); led(2); back()", 120, 120, 10);
        for (int i = 1; i <= 120; i++) {
            payments.is("pay(1, 1)", 120 - i);
        }
        payments.are("led(1); led(2)", 120, 120);
    }
}
