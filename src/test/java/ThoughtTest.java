/** Promises 12 to 21: whose it is, what is owed, and what would come of it. */
public final class ThoughtTest {
    private static final Due DUE = new Due("ThoughtTest");
    private static final int VOID = -2000000000;

    public static void main(String[] args) {
        whose();
        owed();
        shares();
        people();
        hedge();
        later();
        louder();
        bestCry();
        buy();
        sellOff();
        cleared();
        DUE.end();
    }

    /** Fields in a row, each one cell deep and two wide: field i at X 0, Y i, owned as told (-1: nobody). */
    private static FellInField land(int... owners) {
        FellInField x = new FellInField();
        for (int i = 0; i < owners.length; i++) {
            x.field(20 * i, 201);
            x.mend(i, 4, owners[i]);
        }
        return x;
    }

    private static void cries(FellInField x, int... whoAndMinute) {
        for (int i = 0; i < whoAndMinute.length; i += 2) {
            x.cry(whoAndMinute[i], whoAndMinute[i + 1]);
        }
    }

    private static void whose() {
        FellInField x = land(2, -1);
        x.fall(1, 100);
        x.fall(20, 200);
        x.fall(399, 300);
        cries(x, 1, 100, 3, 100, 1, 205, 2, 300, 2, 101);
        int[][] due = {{0, 2, 2, 3, 18}, {1, -2, 1, 4, 13}, {-2, -2, 1, 8, 18}};
        for (int fall = 0; fall < 3; fall++) {
            for (int what = 0; what < 5; what++) {
                DUE.is("whose(" + fall + ", " + what + ")", x.whose(fall, what), due[fall][what]);
            }
        }
        x.fall(0, 900);
        int[] none = {0, 2, 0, 0, 0};
        for (int what = 0; what < 5; what++) {
            DUE.is("none counts", x.whose(3, what), none[what]);
        }
        DUE.is("no such fall", x.whose(4, 0), -1);
        DUE.is("no such fall", x.whose(-1, 0), -1);
        DUE.is("no such what", x.whose(0, 5), -1);
        DUE.is("no such what", x.whose(0, -1), -1);
    }

    private static void owed() {
        FellInField x = land(0, 1, 2);
        x.fall(0, 100);
        x.fall(1, 110);
        x.fall(20, 200);
        x.fall(40, 500);
        cries(x, 1, 100, 2, 200, 1, 110, 0, 400);
        DUE.is("0 owes 1 twice", x.owed(1), 24);
        DUE.is("1 owes 2", x.owed(12), 12);
        DUE.is("0 owes 2", x.owed(2), 0);
        DUE.is("0 in all", x.owed(-1), 24);
        DUE.is("2 in all", x.owed(-3), 0);
        DUE.is("1 is owed", x.owed(-12), 24);
        DUE.is("2 is owed", x.owed(-13), 12);
        DUE.is("0 is owed", x.owed(-11), 0);
        for (int ab : new int[] {6, 16, 60, 56, 66, 100, -7, -10, -17, -18, Integer.MAX_VALUE, Integer.MIN_VALUE}) {
            DUE.is("owed(" + ab + ")", x.owed(ab), VOID);
        }
    }

    private static void shares() {
        int[] share = {12, 6, 4, 3, 2, 2, 1, 1, 1, 1, 1, 1};
        FellInField x = land(0);
        x.fall(0, 0);
        Due.tell(x, "5");
        for (int cry = 0; cry < 12; cry++) {
            x.cry(1 + cry % 2, 0);
            DUE.is("1 of " + (cry + 1), x.owed(1), share[cry] * (cry / 2 + 1));
            DUE.is("2 of " + (cry + 1), x.owed(2), share[cry] * ((cry + 1) / 2));
        }
        x.mend(0, 10, 0);
        DUE.is("itself: none", x.owed(0), 0);
        DUE.is("the others as before", x.owed(1), 5);
        DUE.is("in all", x.owed(-1), 11);
    }

    private static void people() {
        FellInField x = land(0, 3);
        DUE.is("no quarrel", x.who(0), -2);
        DUE.is("none busy", x.who(1), -2);
        DUE.is("none busy", x.who(2), 0);
        DUE.is("no skeptic", x.who(3), -2);
        DUE.is("none idle", x.who(4), 0);
        cries(x, 1, 500, 1, 100, 1, 100, 2, 100, 4, 200);
        DUE.is("idle all", x.who(4), 31);
        DUE.is("none busy", x.who(1), -2);
        x.fall(0, 100);
        DUE.is("alike but one person's are no quarrel", x.who(0), 103);
        DUE.is("busy", x.who(1), 1);
        DUE.is("busy", x.who(2), 1);
        DUE.is("idle", x.who(4), 17);
        DUE.is("skeptic", x.who(3), 0);
        x.fall(20, 200);
        x.fall(20, 199);
        DUE.is("busiest", x.who(1), 4);
        DUE.is("busiest", x.who(2), 2);
        x.cry(0, 900);
        DUE.is("who cried is no skeptic", x.who(3), 3);
        x.cry(3, 900);
        DUE.is("no skeptic", x.who(3), -2);
        DUE.is("who(5)", x.who(5), -1);
        DUE.is("who(-1)", x.who(-1), -1);
        quarrelIsOfTheLeastCries();
        FellInField first = land(0);
        first.fall(0, 100);
        cries(first, 0, 500, 1, 100);
        DUE.is("the first cry is one, too", first.who(3), -2);
    }

    private static void quarrelIsOfTheLeastCries() {
        FellInField x = land(0);
        x.fall(0, 100);
        x.fall(0, 200);
        cries(x, 1, 200, 1, 100, 2, 100, 3, 200);
        DUE.is("the least pair, though of a later fall", x.who(0), 3);
    }

    private static void hedge() {
        FellInField x = land(0, 1, -1);
        x.fall(5, 100);
        x.fall(20, 200);
        cries(x, 2, 100, 3, 200);
        DUE.is("as it is", x.hedge(0, 201), 0);
        DUE.is("wider", x.hedge(0, 601), 12);
        DUE.is("not wide enough", x.hedge(0, 501), 0);
        DUE.is("deeper takes from the other", x.hedge(0, 102), 12);
        DUE.is("all", x.hedge(0, 2020), 24);
        DUE.is("the lesser has it", x.hedge(1, 2020), 0);
        DUE.is("nothing changed", x.of(0, 2), 2);
        DUE.is("nothing changed", x.of(0, 3), 1);
        DUE.is("nothing changed", x.count(4), 2);
        DUE.is("nobody's", x.hedge(2, 101), VOID);
        DUE.is("no such field", x.hedge(3, 101), VOID);
        DUE.is("no such field", x.hedge(-1, 101), VOID);
        for (int wd : new int[] {0, 1, 100, 121, 2101, -101, Integer.MIN_VALUE}) {
            DUE.is("hedge wd " + wd, x.hedge(0, wd), VOID);
        }
        x.mend(1, 0, 0);
        DUE.is("less", x.hedge(1, 101), 0);
        x.mend(1, 6, 1);
        DUE.is("less", x.hedge(1, 101), -12);
        ownersOtherFieldsCountToo();
    }

    private static void ownersOtherFieldsCountToo() {
        FellInField x = land(0, 0);
        x.fall(20, 100);
        cries(x, 2, 100);
        DUE.is("from one's own to one's own", x.hedge(0, 102), 0);
        x.mend(1, 4, 2);
        DUE.is("who cried owns it no more", x.hedge(0, 102), 12);
    }

    private static void later() {
        FellInField x = land(0);
        x.fall(0, 500);
        cries(x, 1, 499, 2, 504, 0, 500);
        DUE.is("till the other counts more", x.later(0), 5);
        DUE.is("not now", x.later(1), -2);
        DUE.is("its own field", x.later(2), -2);
        for (int fc : new int[] {3, 100, -1, -100, Integer.MAX_VALUE, Integer.MIN_VALUE}) {
            DUE.is("later(" + fc + ")", x.later(fc), -1);
        }
        Due.tell(x, "1");
        DUE.is("99 at most", x.later(0), 99);
        x.mend(0, 11, 950);
        DUE.is("999 at most", x.later(0), 49);
        x.mend(0, 11, 999);
        DUE.is("0", x.later(0), 0);
        x.mend(0, 11, 499);
        Due.tell(x, "d=1?2;d=3?2;0");
        DUE.is("all up to it, too", x.later(0), 0);
    }

    private static void louder() {
        FellInField x = land(0);
        x.fall(0, 500);
        cries(x, 1, 500, 2, 503);
        DUE.is("with the other", x.louder(0), 2);
        DUE.is("louder than now", x.louder(1), 8);
        x.mend(1, 11, 505);
        DUE.is("never", x.louder(1), -2);
        Due.tell(x, "l%2*l");
        DUE.is("the least", x.louder(0), 5);
        x.mend(1, 13, 4);
        DUE.is("the least", x.louder(0), 1);
        for (int fc : new int[] {2, 100, -1, Integer.MAX_VALUE, Integer.MIN_VALUE}) {
            DUE.is("louder(" + fc + ")", x.louder(fc), -1);
        }
        DUE.is("nothing changed", x.of(0, 13), 5);
    }

    private static void bestCry() {
        FellInField x = land(0, 3);
        cries(x, 1, 600, 2, 500);
        DUE.is("without falls", x.bestCry(0, 0), 0);
        DUE.is("without falls", x.bestCry(0, 1), 0);
        x.fall(0, 500);
        DUE.is("only at the very minute, with the other", x.bestCry(0, 0), 500);
        DUE.is("half", x.bestCry(0, 1), 6);
        x.fall(20, 520);
        DUE.is("the later one alone", x.bestCry(0, 0), 503);
        DUE.is("the later one alone", x.bestCry(0, 1), 12);
        DUE.is("two", x.bestCry(1, 1), 24);
        DUE.is("two", x.bestCry(1, 0), 503);
        x.mend(1, 10, 3);
        DUE.is("its own is none", x.bestCry(1, 1), 12);
        DUE.is("no such cry", x.bestCry(2, 0), -1);
        DUE.is("no such cry", x.bestCry(-1, 0), -1);
        DUE.is("no such what", x.bestCry(0, 2), -1);
        DUE.is("no such what", x.bestCry(0, -1), -1);
        DUE.is("nothing changed", x.of(0, 11), 600);
        FellInField end = land(0);
        end.fall(0, 999);
        cries(end, 1, 5);
        Due.tell(end, "!s&d=1");
        DUE.is("999 at most", end.bestCry(0, 0), 0);
        DUE.is("999 at most", end.bestCry(0, 1), 0);
        Due.tell(end, "!s");
        DUE.is("999", end.bestCry(0, 0), 999);
        DUE.is("999", end.bestCry(0, 1), 12);
    }

    /** A field that is not one's own makes it owe nothing, one's own is never paid for: to buy never gains. */
    private static void buy() {
        FellInField x = land(0, 1, -1, 5);
        for (int i = 0; i < 4; i++) {
            x.fall(20 * i, 100 * (i + 1));
        }
        cries(x, 1, 100, 1, 200, 2, 100, 5, 300, 5, 401, 3, 404);
        String[] laws = {"10-d", "h?20;10-d", "9"};
        DUE.is("0 owes two halves", x.buy(0, 999, 0), -12);
        DUE.is("2 is owed a half", x.buy(2, 999, 0), 6);
        DUE.is("3 is owed: 5 cried nearer, but at home", x.buy(3, 999, 0), 12);
        DUE.is("5 keeps its own field", x.buy(5, 999, 0), -12);
        for (String law : laws) {
            Due.tell(x, law);
            for (int one = 0; one < 6; one++) {
                int worth = x.owed(-11 - one) - x.owed(-1 - one);
                DUE.is("buy(" + one + ", 999, 0) by " + law, x.buy(one, 999, 0), worth);
                DUE.is("buy(" + one + ", 999, 1) by " + law, x.buy(one, 999, 1), 0);
                DUE.is("buy(" + one + ", 0, 0) by " + law, x.buy(one, 0, 0), worth);
            }
        }
        for (int field = 0; field < 4; field++) {
            x.mend(field, 5, 0);
        }
        DUE.is("for naught: the least bits", x.buy(4, 0, 1), 0);
        for (int[] w : new int[][] {{-1, 0, 0}, {6, 0, 0}, {0, -1, 0}, {0, 1000, 0}, {0, 0, 2}, {0, 0, -1}}) {
            DUE.is("buy(" + w[0] + ", " + w[1] + ", " + w[2] + ")", x.buy(w[0], w[1], w[2]), VOID);
        }
    }

    private static void sellOff() {
        FellInField x = land(0, 0, 1, 0);
        x.fall(0, 100);
        x.fall(40, 200);
        x.fall(60, 300);
        cries(x, 2, 100, 2, 200, 2, 300);
        DUE.is("two", x.sellOff(0, 0), 2);
        DUE.is("which", x.sellOff(0, 1), 9);
        DUE.is("one", x.sellOff(1, 0), 1);
        DUE.is("which", x.sellOff(1, 1), 4);
        DUE.is("none", x.sellOff(2, 0), 0);
        DUE.is("none", x.sellOff(2, 1), 0);
        FellInField still = land(0);
        cries(still, 1, 0);
        DUE.is("without falls", still.sellOff(0, 1), 0);
        FellInField least = land(0);
        least.fall(0, 0);
        for (int cry = 0; cry < 12; cry++) {
            least.cry(cry == 7 ? 1 : 0, 0);
        }
        Due.tell(least, "1");
        DUE.is("owing one twelfth", least.sellOff(0, 1), 1);
        DUE.is("no such one", x.sellOff(6, 0), -1);
        DUE.is("no such one", x.sellOff(-1, 0), -1);
        DUE.is("no such what", x.sellOff(0, 2), -1);
        DUE.is("no such what", x.sellOff(0, -1), -1);
        DUE.is("nothing changed", x.of(0, 4), 0);
    }

    private static void cleared() {
        // 0 owes 1 twice, 1 owes 2, 2 owes 0; 3 owes 4.
        FellInField x = land(0, 1, 2, 3);
        x.fall(0, 100);
        x.fall(1, 150);
        x.fall(20, 200);
        x.fall(40, 300);
        x.fall(60, 400);
        cries(x, 1, 100, 1, 150, 2, 200, 0, 300, 4, 400);
        int[][] due = {{1, 12}, {12, 0}, {20, 0}, {34, 12}, {10, 0}, {43, 0}};
        for (int[] d : due) {
            DUE.is("cleared(" + d[0] + ", 0)", x.cleared(d[0], 0), d[1]);
        }
        DUE.is("owed as before", x.owed(1), 24);
        DUE.is("rich", x.cleared(0, 1), 1);
        DUE.is("how much", x.cleared(0, 2), 12);
        x.mend(4, 10, 5);
        DUE.is("of like ones the least", x.cleared(0, 1), 1);
        for (int[] w : new int[][] {{0, 0}, {11, 0}, {6, 0}, {60, 0}, {-1, 0}, {-12, 0}, {1, 1}, {1, 2}, {-1, 1}, {0, 3}, {0, -1},
            {1, 3}}) {
            DUE.is("cleared(" + w[0] + ", " + w[1] + ")", x.cleared(w[0], w[1]), VOID);
        }
        theFirstRingByNumbers();
        ringsOfOne();
    }

    /** The rings 0, 4, 5 and 1, 4, 5 share what 4 owes 5. */
    private static void theFirstRingByNumbers() {
        int[][] debts = {{0, 4}, {5, 1}, {4, 5}, {1, 4}, {5, 0}};
        FellInField x = new FellInField();
        for (int i = 0; i < 5; i++) {
            x.field(20 * i, 101);
            x.mend(i, 4, debts[i][0]);
            x.fall(20 * i, 100 * i);
            x.cry(debts[i][1], 100 * i);
        }
        int[][] due = {{4, 0}, {45, 0}, {50, 0}, {14, 12}, {51, 12}};
        for (int[] d : due) {
            DUE.is("cleared(" + d[0] + ", 0)", x.cleared(d[0], 0), d[1]);
        }
    }

    private static void ringsOfOne() {
        FellInField x = land(0, 1, 2);
        Due.tell(x, "1");
        for (int i = 0; i < 3; i++) {
            x.fall(20 * i, 0);
        }
        for (int i = 0; i < 12; i++) {
            x.cry(Math.min(i, 3), 0);
        }
        int[][] due = {{1, 0}, {12, 0}, {20, 0}, {2, 0}, {21, 0}, {10, 0}, {3, 9}, {13, 9}};
        for (int[] d : due) {
            DUE.is("cleared(" + d[0] + ", 0)", x.cleared(d[0], 0), d[1]);
        }
    }
}
