/** Boundaries of what is thought, sentence by sentence: promises 12 to 21. */
public final class EdgeThoughtTest {
    private static final Due DUE = new Due("EdgeThoughtTest");
    private static final int BAD = Edge.BAD;
    private static final int NOT = Edge.NOT;
    private static final int VOID = Edge.VOID;
    private static final int MIN = Edge.MIN;
    private static final int MAX = Edge.MAX;

    public static void main(String[] args) {
        whose();
        whoseOfAFall();
        owed();
        owedByAllFalls();
        who();
        quarrel();
        busiest();
        skeptic();
        idle();
        hedge();
        hedgeMoved();
        later();
        laterAtMost();
        louder();
        leastLoud();
        bestCry();
        bestMinute();
        buy();
        buyLeast();
        sellOff();
        sellOffFewest();
        cleared();
        rings();
        rich();
        DUE.end();
    }

    /** Fields of one cell each, from X 0, Y 0 down, owned as told, and a fall on each in minutes 0, 100, 200 and so on. */
    private static Run owners(int... owners) {
        Run run = Edge.empty(DUE);
        for (int i = 0; i < owners.length; i++) {
            run.is("field(" + 20 * i + ", 101)", i).does("mend(" + i + ", 4, " + owners[i] + ")");
            run.is("fall(" + 20 * i + ", " + 100 * i + ")", i);
        }
        return run;
    }

    /** As owners(), and the i-th of the criers cries in the minute of the i-th fall. */
    private static Run debts(int[] owners, int[] criers) {
        Run run = owners(owners);
        for (int i = 0; i < criers.length; i++) {
            run.is("cry(" + criers[i] + ", " + 100 * i + ")", i);
        }
        return run;
    }

    private static void whose() {
        DUE.says("`int whose(int fall, int what)`: WHOSE: the FIELD (what 0; NOT), the FINDER (1; NOT), how many (2), which (3), "
                + "how much (4). BAD.");
        for (int what = 0; what <= 4; what++) {
            Edge.empty(DUE).keeps("whose(0, " + what + ")", BAD);
            Edge.some(DUE).keepsEach("whose(?, " + what + ")", BAD, MIN, -1, 3, MAX);
            Edge.full(DUE).keepsEach("whose(?, " + what + ")", BAD, MIN, -1, 10, MAX);
        }
        Edge.some(DUE).keepsEach("whose(0, ?)", BAD, MIN, -1, 5, MAX);
        Run some = Edge.some(DUE).keeps("whose(0, 0)", 0).keeps("whose(0, 1)", 1).keeps("whose(0, 3)", 5).keeps("whose(2, 1)", NOT);
        some.are("whose(0, 2); whose(0, 4); whose(1, 0); whose(1, 1)", 2, 24, 1, 5);
        some.are("whose(2, 0); whose(2, 1); whose(2, 2); whose(2, 3); whose(2, 4)", NOT, NOT, 0, 0, 0);
        Run all = Edge.full(DUE).is("law()", 1).are("whose(9, 2); whose(9, 3); whose(9, 4)", 12, 4095, 69);
        all.does("mend(7, 2, 20); mend(7, 3, 20); mend(7, 0, 0); mend(7, 1, 0); mend(9, 6, 19); mend(9, 7, 0)").is("whose(9, 0)", 7);
    }

    private static void whoseOfAFall() {
        DUE.says("WHOSE: of a FALL: the FIELD; the FINDER; how many CRIES HAVE it; which (bits); how much they COUNT (0: none).");
        Run run = Edge.empty(DUE).is("fall(0, 100)", 0);
        run.are("whose(0, 0); whose(0, 1); whose(0, 2); whose(0, 3); whose(0, 4)", NOT, NOT, 0, 0, 0);
        run.does("cry(1, 99); cry(2, 101); cry(3, 100); cry(0, 100)").law("9-d");
        run.are("whose(0, 0); whose(0, 1); whose(0, 2); whose(0, 3); whose(0, 4)", NOT, NOT, 2, 12, 9);
        run.does("field(0, 101); mend(0, 4, 5)").law("h-d");
        run.are("whose(0, 0); whose(0, 1); whose(0, 2); whose(0, 3); whose(0, 4)", 0, 5, 0, 0, 0);
        run.does("mend(0, 4, 0)").are("whose(0, 0); whose(0, 1); whose(0, 2); whose(0, 3); whose(0, 4)", 0, 0, 1, 8, 1);
        run.law("d-1").are("whose(0, 2); whose(0, 3); whose(0, 4)", 0, 0, 0).law("d").are("whose(0, 2); whose(0, 3); whose(0, 4)", 2, 3, 1);
    }

    private static void owed() {
        DUE.says("`int owed(int ab)`: OWED: by a to b (ab), all that one OWES (-1 less its number), all that it is owed (-11 less its "
                + "number). VOID: BAD.");
        for (Run run : new Run[] {Edge.empty(DUE), Edge.some(DUE), Edge.full(DUE)}) {
            run.keepsEach("owed(?)", VOID, Edge.NO_PAIR);
            run.keepsEach("owed(?)", VOID, MIN, -100, -18, -17, -10, -9, -8, -7);
        }
        Run some = Edge.some(DUE).keeps("owed(13)", 6).keeps("owed(50)", 12).keeps("owed(-2)", 6).keeps("owed(-14)", 6);
        for (int a = 0; a < 6; a++) {
            some.is("owed(" + (-1 - a) + ")", a == 1 ? 6 : a == 5 ? 12 : 0);
            some.is("owed(" + (-11 - a) + ")", a == 3 ? 6 : a == 0 ? 12 : 0);
            for (int b = 0; b < 6; b++) {
                some.is("owed(" + (10 * a + b) + ")", a == 1 && b == 3 ? 6 : a == 5 && b == 0 ? 12 : 0);
            }
        }
    }

    private static void owedByAllFalls() {
        DUE.says("OWED: what one OWES another by all FALLS, in twelfths; what one OWES in all; what it is owed in all.");
        Run run = Edge.empty(DUE).does("field(0, 2020); mend(0, 4, 5); cry(0, 0)").law("1");
        for (int fall = 0; fall < 10; fall++) {
            run.are("owed(50); owed(-6); owed(-11)", 12 * fall, 12 * fall, 12 * fall).is("fall(" + 7 * fall + ", 0)", fall);
        }
        run.are("owed(50); owed(-6); owed(-11)", 120, 120, 120);
        run.does("find(0); pay(50, 12)").are("owed(50); owed(-6); owed(-11)", 120, 120, 120);
    }

    private static void who() {
        DUE.says("`int who(int what)`: QUARREL (what 0), BUSIEST (1), how many (2; 0), SKEPTIC (3), IDLE (4). BAD; NOT.");
        for (Run run : new Run[] {Edge.empty(DUE), Edge.some(DUE), Edge.full(DUE)}) {
            run.keepsEach("who(?)", BAD, MIN, -1, 5, MAX);
        }
        Run none = Edge.empty(DUE);
        none.keeps("who(0)", NOT).keeps("who(1)", NOT).keeps("who(2)", 0).keeps("who(3)", NOT).keeps("who(4)", 0);
        Run some = Edge.some(DUE).keeps("who(0)", 2).keeps("who(1)", 0).keeps("who(2)", 1).keeps("who(3)", 5).keeps("who(4)", 0);
        some.does("give(1, 2)").is("who(3)", 2);
    }

    private static void quarrel() {
        DUE.says("QUARREL: the first two CRIES (100 times the lesser and the other) that HAVE the same FALL, of unlike people; NOT.");
        Run run = Edge.empty(DUE).does("fall(0, 500); cry(0, 500)").law("d=0").is("who(0)", NOT);
        run.does("cry(0, 500)").is("who(0)", NOT).does("cry(1, 500)").is("who(0)", 2);
        run.does("mend(1, 10, 2)").is("who(0)", 1).does("mend(0, 11, 0)").is("who(0)", 102);
        for (int cry = 3; cry < 12; cry++) {
            run.does("cry(0, 0)").is("who(0)", 102);
        }
        run.does("mend(1, 11, 0)").is("who(0)", NOT).does("mend(10, 11, 500); mend(11, 11, 500)").is("who(0)", 210);
        run.does("mend(2, 11, 1)").is("who(0)", NOT).does("mend(11, 10, 5)").is("who(0)", 1011);
        run.does("mend(0, 8, 1)").is("who(0)", NOT);
    }

    private static void busiest() {
        DUE.says("BUSIEST: the CRY that HAS most FALLS (of like ones the least; NOT: none has any); how many.");
        Run run = Edge.empty(DUE).does("cry(0, 0)").are("who(1); who(2)", NOT, 0).does("fall(0, 900)").are("who(1); who(2)", NOT, 0);
        run.law("d<5").does("mend(0, 8, 0)").are("who(1); who(2)", 0, 1).does("cry(0, 0)").are("who(1); who(2)", 0, 1);
        run.does("mend(0, 11, 5); fall(0, 10); fall(0, 10)").are("who(1); who(2)", 1, 1);
        for (int cry = 2; cry < 12; cry++) {
            run.does("cry(0, 900)");
        }
        run.does("mend(11, 11, 10)").are("who(1); who(2)", 11, 2).does("mend(1, 8, 0)").are("who(1); who(2)", 1, 2);
        for (int fall = 3; fall < 10; fall++) {
            run.does("fall(0, 10)");
        }
        run.are("who(1); who(2)", 11, 8).does("mend(0, 8, 10); mend(1, 8, 10)").are("who(1); who(2)", 11, 10);
        run.does("mend(0, 11, 10)").are("who(1); who(2)", 0, 10);
    }

    private static void skeptic() {
        DUE.says("SKEPTIC: the first person who owns a FIELD, cried nothing and OWES something; NOT.");
        Run run = debts(new int[] {5, 2}, new int[] {0, 1}).is("who(3)", 2);
        run.does("mend(1, 4, 5)").is("who(3)", 5).does("mend(0, 4, 0)").is("who(3)", 5);
        run.does("mend(1, 4, -1)").is("who(3)", NOT).does("mend(0, 4, 3)").is("who(3)", 3);
        run.does("cry(3, 999)").is("who(3)", NOT).does("mend(2, 10, 4)").is("who(3)", 3);
        run.does("mend(0, 8, 999)").is("who(3)", 3).does("mend(0, 8, 500)").is("who(3)", NOT);
        debts(new int[] {0}, new int[] {1}).is("who(3)", 0);
    }

    private static void idle() {
        DUE.says("IDLE: which CRIES (bits) HAVE nothing.");
        Run run = Edge.empty(DUE).is("who(4)", 0);
        for (int cry = 0; cry < 12; cry++) {
            run.does("cry(0, " + cry + ")").is("who(4)", (1 << cry + 1) - 1);
        }
        run.law("d=0").does("fall(0, 0)").is("who(4)", 4094).does("mend(0, 8, 11)").is("who(4)", 2047);
        run.law("1").is("who(4)", 0).law("0").is("who(4)", 4095);
    }

    private static void hedge() {
        DUE.says("`int hedge(int field, int wd)`: HEDGE (wd). VOID: BAD; the FIELD is nobody's.");
        Edge.empty(DUE).keepsEach("hedge(?, 101)", VOID, MIN, -1, 0, MAX);
        Edge.some(DUE).keepsEach("hedge(?, 101)", VOID, MIN, -1, 2, 3, MAX).keepsEach("hedge(0, ?)", VOID, Edge.NO_SIZE);
        Edge.full(DUE).keepsEach("hedge(?, 101)", VOID, MIN, -1, 8, MAX).keepsEach("hedge(7, ?)", VOID, Edge.NO_SIZE);
        Run some = Edge.some(DUE).keeps("hedge(0, 101)", -6).keeps("hedge(0, 2020)", 12).keeps("hedge(1, 2020)", 0);
        some.does("give(0, -1)").keeps("hedge(0, 101)", VOID).does("give(0, 0)").keeps("hedge(0, 101)", -12);
    }

    private static void hedgeMoved() {
        DUE.says("HEDGE: if a FIELD were DEEP, WIDE by told ones instead: what its OWNER would OWE in all less what it OWES now.");
        Run run = Edge.empty(DUE).does("field(0, 101); mend(0, 4, 0); fall(19, 0); fall(380, 0); fall(399, 0); cry(1, 0)");
        run.are("hedge(0, 101); hedge(0, 1901); hedge(0, 2001); hedge(0, 119); hedge(0, 120)", 0, 0, 12, 0, 12);
        run.are("hedge(0, 1919); hedge(0, 2019); hedge(0, 1920); hedge(0, 2020)", 0, 12, 12, 36);
        run.does("mend(0, 2, 20); mend(0, 3, 20)").are("hedge(0, 2020); hedge(0, 2001); hedge(0, 101)", 0, -24, -36);
        run.does("mend(0, 0, 19)").are("of(0, 2); hedge(0, 120); hedge(0, 2020); hedge(0, 119)", 20, 0, 0, -12);
    }

    private static void later() {
        DUE.says("`int later(int fc)`: LATER (fc). BAD; NOT.");
        Edge.empty(DUE).keepsEach("later(?)", BAD, MIN, -1, 0, 1, 100, MAX);
        Run some = Edge.some(DUE).keepsEach("later(?)", BAD, MIN, -100, -1, 3, 99, 103, 203, 300, MAX);
        some.keeps("later(0)", 0).keeps("later(101)", 5).keeps("later(102)", NOT).keeps("later(2)", 2);
        Run full = Edge.full(DUE).keepsEach("later(?)", BAD, MIN, -1, 12, 912, 1000, MAX).is("law()", 1);
        full.are("later(0); later(11); later(900); later(911)", 99, 9, 99, 9);
    }

    private static void laterAtMost() {
        DUE.says("LATER: by how many minutes more (0 .. 99; MINUTE 999 at most) a CRY could come and still HAVE a FALL (all up to it, "
                + "too); NOT: it has it not now.");
        Run run = Edge.empty(DUE).does("fall(0, 500); cry(0, 0)").law("1").is("later(0)", 99);
        int[][] minutes = {{899, 99}, {900, 99}, {901, 98}, {998, 1}, {999, 0}};
        for (int[] m : minutes) {
            run.does("mend(0, 11, " + m[0] + ")").is("later(0)", m[1]);
        }
        run.does("mend(0, 11, 500)").law("d<99").is("later(0)", 98).law("d<100").is("later(0)", 99).law("d<101").is("later(0)", 99);
        run.law("d=0").is("later(0)", 0).law("!(d=1)").is("later(0)", 0).law("!(d=99)").is("later(0)", 98);
        run.law("d").is("later(0)", NOT).law("0").is("later(0)", NOT);
        run.does("mend(0, 11, 450)").law("d<9").is("later(0)", NOT);
        run.does("cry(1, 600)").law("700-d").is("later(0)", 99).does("mend(1, 11, 520); mend(0, 11, 490)").is("later(0)", 30);
        run.does("mend(0, 11, 480)").is("later(0)", 40).does("mend(0, 11, 479)").is("later(0)", NOT);
    }

    private static void louder() {
        DUE.says("`int louder(int fc)`: LOUDER (fc). BAD; NOT.");
        Edge.empty(DUE).keepsEach("louder(?)", BAD, MIN, -1, 0, 1, 100, MAX);
        Run some = Edge.some(DUE).keepsEach("louder(?)", BAD, MIN, -100, -1, 3, 99, 103, 203, 300, MAX);
        some.keeps("louder(0)", 5).keeps("louder(1)", 8).keeps("louder(202)", NOT);
        Run full = Edge.full(DUE).keepsEach("louder(?)", BAD, MIN, -1, 12, 912, 1000, MAX);
        full.are("louder(0); louder(911)", 4, 6);
    }

    private static void leastLoud() {
        DUE.says("LOUDER: the least LOUD (0 .. 9) by which a CRY HAS a FALL, alone or with others; NOT.");
        Run run = Edge.empty(DUE).does("fall(0, 0); cry(0, 0)").law("l").is("louder(0)", 1).law("l+1").is("louder(0)", 0);
        for (int loud = 0; loud <= 9; loud++) {
            run.law("l>" + loud).is("louder(0)", loud == 9 ? NOT : loud + 1).law("l=" + loud).is("louder(0)", loud);
        }
        run.law("l").does("cry(0, 0); mend(1, 13, 9)").is("louder(0)", 9).law("l*2-(d=0)").is("louder(0)", 9);
        run.does("mend(0, 11, 1)").is("louder(0)", 9).does("mend(0, 11, 0)").law("(l=2|l=9)*9-l").is("louder(0)", 2);
        run.does("mend(1, 13, 5)").law("9-l").is("louder(0)", 0).law("l>9").is("louder(0)", NOT).is("of(0, 13)", 5);
    }

    private static void bestCry() {
        DUE.says("`int bestCry(int cry, int what)`: BEST CRY: the minute (what 0), that (1). BAD.");
        Edge.empty(DUE).keepsEach("bestCry(?, 0)", BAD, MIN, -1, 0, MAX);
        for (int what = 0; what <= 1; what++) {
            Edge.some(DUE).keepsEach("bestCry(?, " + what + ")", BAD, MIN, -1, 3, MAX);
            Edge.full(DUE).keepsEach("bestCry(?, " + what + ")", BAD, MIN, -1, 12, MAX);
        }
        Run some = Edge.some(DUE).keepsEach("bestCry(0, ?)", BAD, MIN, -1, 2, MAX);
        some.keeps("bestCry(0, 0)", 100).keeps("bestCry(0, 1)", 12);
        Run full = Edge.full(DUE).is("law()", 1).are("bestCry(11, 0); bestCry(0, 0)", 0, 0);
    }

    private static void bestMinute() {
        DUE.says("BEST CRY: in which minute (0 .. 999; of like ones the least) a CRY should come so that who cried it is owed most in "
                + "all: the minute; that.");
        Run run = Edge.empty(DUE).does("cry(1, 700)").are("bestCry(0, 0); bestCry(0, 1)", 0, 0);
        run.does("field(0, 101); mend(0, 4, 0); fall(0, 500)").law("d=0").are("bestCry(0, 0); bestCry(0, 1)", 500, 12);
        run.does("mend(0, 8, 0)").are("bestCry(0, 0); bestCry(0, 1)", 0, 12);
        run.does("mend(0, 8, 999)").are("bestCry(0, 0); bestCry(0, 1)", 999, 12);
        run.law("d=9").are("bestCry(0, 0); bestCry(0, 1)", 990, 12).does("mend(0, 8, 9)").are("bestCry(0, 0); bestCry(0, 1)", 0, 12);
        run.law("1").are("bestCry(0, 0); bestCry(0, 1)", 0, 12).law("0").are("bestCry(0, 0); bestCry(0, 1)", 0, 0);
        run.does("mend(0, 4, 1)").law("1").are("bestCry(0, 0); bestCry(0, 1)", 0, 0);
        Run two = Edge.empty(DUE).does("field(0, 101); mend(0, 4, 0); fall(0, 100); fall(0, 200); fall(0, 204); cry(1, 999)").law("d<3");
        two.are("bestCry(0, 0); bestCry(0, 1)", 202, 24).does("cry(2, 202)").are("bestCry(0, 0); bestCry(0, 1)", 98, 12);
        two.does("cry(1, 204); mend(1, 11, 100)").are("bestCry(0, 0); bestCry(0, 1)", 198, 24);
        two.does("cry(5, 204)").are("bestCry(0, 0); bestCry(0, 1)", 202, 20);
    }

    private static void buy() {
        DUE.says("`int buy(int one, int coins, int what)`: BUY for COINS: that (what 0), which (1). VOID: BAD.");
        for (Run run : new Run[] {Edge.empty(DUE), Edge.some(DUE), Edge.full(DUE)}) {
            run.keepsEach("buy(?, 0, 0)", VOID, MIN, -1, 6, MAX).keepsEach("buy(0, ?, 0)", VOID, MIN, -1, 1000, MAX);
            run.keepsEach("buy(0, 0, ?)", VOID, MIN, -1, 2, MAX);
            for (int one = 0; one < 6; one++) {
                run.is("buy(" + one + ", 0, 1)", 0).is("buy(" + one + ", 999, 1)", 0);
            }
        }
        Run some = Edge.some(DUE).keeps("buy(0, 0, 0)", 12).keeps("buy(5, 999, 0)", -12).keeps("buy(1, 999, 0)", -6);
        some.keeps("buy(3, 999, 0)", 6).keeps("buy(0, 999, 1)", 0);
    }

    private static void buyLeast() {
        DUE.says("BUY: one of the people (0 .. 5) buys FIELDS that are not its own (nobody's, too) for COINS (0 .. 999) at their PRICES, "
                + "the sellers owe no more for what falls there, it does: so that it is owed most less what it OWES then (of like ones "
                + "the fewest COINS, then the least bits): that; which (bits).");
        Run run = debts(new int[] {0, 1, -1, 2}, new int[] {3, 0, 1, 3});
        int[] worth = {12 - 12, -12, -12, 24, 0, 0};
        for (int one = 0; one < 6; one++) {
            run.each("buy(" + one + ", ?, 0)", worth[one], 0, 9, 10, 40, 999).each("buy(" + one + ", ?, 1)", 0, 0, 9, 10, 40, 999);
        }
        run.does("mend(0, 5, 0); mend(1, 5, 0); mend(2, 5, 0); mend(3, 5, 0)");
        for (int one = 0; one < 6; one++) {
            run.each("buy(" + one + ", ?, 0)", worth[one], 0, 999).each("buy(" + one + ", ?, 1)", 0, 0, 999);
        }
    }

    private static void sellOff() {
        DUE.says("`int sellOff(int one, int what)`: SELL OFF: how many (what 0), which (1). BAD; NOT.");
        for (Run run : new Run[] {Edge.empty(DUE), Edge.some(DUE), Edge.full(DUE)}) {
            run.keepsEach("sellOff(?, 0)", BAD, MIN, -1, 6, MAX).keepsEach("sellOff(?, 1)", BAD, MIN, -1, 6, MAX);
            run.keepsEach("sellOff(0, ?)", BAD, MIN, -1, 2, MAX);
        }
        Run none = Edge.empty(DUE).keeps("sellOff(0, 0)", 0).keeps("sellOff(5, 1)", 0);
        Run some = Edge.some(DUE).keeps("sellOff(1, 0)", 1).keeps("sellOff(1, 1)", 1).keeps("sellOff(5, 1)", 2).keeps("sellOff(0, 0)", 0);
    }

    private static void sellOffFewest() {
        DUE.says("SELL OFF: the fewest FIELDS of one's own that, given to nobody, leave it OWING nothing (of like ones the least bits): "
                + "how many; which; NOT: that does not do.");
        Run all = debts(new int[] {5, 5, 5, 5, 5, 5, 5, 5}, new int[] {0, 0, 0, 0, 0, 0, 0, 0});
        all.are("sellOff(5, 0); sellOff(5, 1); sellOff(0, 0); sellOff(0, 1)", 8, 255, 0, 0);
        all.does("mend(0, 8, 50)").are("sellOff(5, 0); sellOff(5, 1)", 7, 254).does("mend(7, 10, 5)").are("sellOff(5, 0); sellOff(5, 1)", 6, 126);
        all.does("mend(3, 4, 4)").are("sellOff(5, 0); sellOff(5, 1); sellOff(4, 0); sellOff(4, 1)", 5, 118, 1, 8);
        all.does("mend(3, 6, 0); mend(3, 7, 2)").are("sellOff(5, 0); sellOff(5, 1); sellOff(4, 1)", 5, 118, 0);
        all.does("mend(3, 7, 0)").are("sellOff(5, 0); sellOff(5, 1)", 6, 119);
        Run half = debts(new int[] {0}, new int[] {0, 1}).law("1").are("sellOff(0, 0); sellOff(0, 1)", 1, 1);
        half.does("mend(1, 10, 0)").are("sellOff(0, 0); sellOff(0, 1)", 0, 0);
    }

    private static void cleared() {
        DUE.says("`int cleared(int ab, int what)`: CLEARED (what 0; ab, unlike), the one who is owed most (1), how much (2; ab 0 for "
                + "these). VOID: BAD.");
        for (Run run : new Run[] {Edge.empty(DUE), Edge.some(DUE), Edge.full(DUE)}) {
            run.keepsEach("cleared(?, 0)", VOID, Edge.NO_PAIR).keepsEach("cleared(?, 0)", VOID, MIN, -55, -12, -1);
            run.keepsEach("cleared(?, 0)", VOID, 0, 11, 22, 33, 44, 55);
            run.keepsEach("cleared(0, ?)", VOID, MIN, -1, 3, MAX).keepsEach("cleared(1, ?)", VOID, MIN, -1, 3, MAX);
            run.keepsEach("cleared(?, 1)", VOID, MIN, -1, 1, 10, 55, 66, MAX).keepsEach("cleared(?, 2)", VOID, MIN, -1, 1, 10, 55, 66, MAX);
        }
        Run none = Edge.empty(DUE).are("cleared(1, 0); cleared(10, 0); cleared(54, 0); cleared(45, 0)", 0, 0, 0, 0);
        none.keeps("cleared(0, 1)", 0).keeps("cleared(0, 2)", 0).keeps("cleared(1, 0)", 0);
        Edge.some(DUE).keeps("cleared(13, 0)", 6).keeps("cleared(50, 0)", 12).keeps("cleared(0, 1)", 0).keeps("cleared(0, 2)", 12);
    }

    private static void rings() {
        DUE.says("CLEARED: of rings of three people a, b, c (a OWES b, b c, c a) the first (by numbers) with all above 0 is lessened by "
                + "the least of them, again and again, till none is left: what a OWES b then.");
        Run two = debts(new int[] {0, 1}, new int[] {1, 0}).are("cleared(1, 0); cleared(10, 0)", 12, 12);
        Run open = debts(new int[] {0, 1}, new int[] {1, 2}).are("cleared(1, 0); cleared(12, 0); cleared(20, 0)", 12, 12, 0);
        Run ring = debts(new int[] {3, 4, 5}, new int[] {4, 5, 3}).are("cleared(34, 0); cleared(45, 0); cleared(53, 0)", 0, 0, 0);
        ring.are("owed(34); owed(45); owed(53)", 12, 12, 12).keeps("cleared(34, 0)", 0);
        Run more = debts(new int[] {3, 4, 5, 3}, new int[] {4, 5, 3, 4});
        more.are("cleared(34, 0); cleared(45, 0); cleared(53, 0)", 12, 0, 0);
        Run other = debts(new int[] {3, 5, 4}, new int[] {5, 4, 3}).are("cleared(35, 0); cleared(54, 0); cleared(43, 0)", 0, 0, 0);
        Run four = debts(new int[] {0, 1, 2, 3}, new int[] {1, 2, 3, 0});
        four.are("cleared(1, 0); cleared(12, 0); cleared(23, 0); cleared(30, 0)", 12, 12, 12, 12);
        Run first = debts(new int[] {0, 1, 2, 3, 2}, new int[] {1, 2, 3, 0, 0});
        first.are("cleared(1, 0); cleared(12, 0); cleared(20, 0); cleared(23, 0); cleared(30, 0)", 0, 0, 0, 12, 12);
        Run again = debts(new int[] {0, 1, 2, 0, 1, 3, 2}, new int[] {1, 2, 0, 1, 3, 0, 5});
        again.are("owed(1); owed(12); owed(20); owed(13); owed(30); owed(25)", 24, 12, 12, 12, 12, 12);
        again.are("cleared(1, 0); cleared(12, 0); cleared(20, 0); cleared(13, 0); cleared(30, 0); cleared(25, 0)", 0, 0, 0, 0, 0, 12);
    }

    private static void rich() {
        DUE.says("RICH: the one who is owed most less what it OWES (of like ones the least); how much.");
        debts(new int[] {0}, new int[] {5}).are("cleared(0, 1); cleared(0, 2)", 5, 12);
        debts(new int[] {5}, new int[] {0}).are("cleared(0, 1); cleared(0, 2)", 0, 12);
        debts(new int[] {0, 1}, new int[] {1, 0}).are("cleared(0, 1); cleared(0, 2)", 0, 0);
        debts(new int[] {0, 0}, new int[] {4, 3}).are("cleared(0, 1); cleared(0, 2)", 3, 12);
        debts(new int[] {0, 4}, new int[] {4, 3}).are("cleared(0, 1); cleared(0, 2)", 3, 12);
        debts(new int[] {0, 0, 3}, new int[] {3, 3, 0}).are("cleared(0, 1); cleared(0, 2)", 3, 12);
        debts(new int[] {0, 0, 3, 3}, new int[] {3, 3, 2, 0}).are("cleared(0, 1); cleared(0, 2)", 2, 12);
    }
}
