/** Promises 22 to 26: where it fell, when it was cried, years read back, nights by draws. */
public final class WitnessTest {
    private static final Due DUE = new Due("WitnessTest");
    private static final int[] NO_SHELF = {-1, 6, Integer.MAX_VALUE, Integer.MIN_VALUE};

    public static void main(String[] args) {
        refusals();
        sight();
        ears();
        judge();
        whoseCry();
        drawn();
        DUE.end();
    }

    private static void refusals() {
        FellInField x = new FellInField();
        x.body(0);
        for (int shelf : NO_SHELF) {
            DUE.is("sight", x.sight(shelf, 0), -1);
            DUE.is("ears", x.ears(shelf, 0), -1);
            DUE.is("judge", x.judge(shelf), -1);
            DUE.is("whoseCry", x.whoseCry(shelf, 0, 0), -1);
        }
        for (int what : new int[] {-1, 4, Integer.MAX_VALUE}) {
            DUE.is("sight, BAD ahead of -11", x.sight(0, what), -1);
            DUE.is("ears, BAD ahead of -11", x.ears(0, what), -1);
            DUE.is("whoseCry, BAD ahead of -11", x.whoseCry(0, 0, what), -1);
        }
        DUE.is("ears(0, 3)", x.ears(0, 3), -1);
        DUE.is("whoseCry(0, 0, 2)", x.whoseCry(0, 0, 2), -1);
        DUE.is("sight", x.sight(0, 3), -11);
        DUE.is("ears", x.ears(0, 2), -11);
        DUE.is("judge", x.judge(0), -11);
        DUE.is("whoseCry", x.whoseCry(0, 0, 1), -11);
        x.keep(0, 0);
        DUE.is("sight of a body", x.sight(0, 0), -12);
        DUE.is("ears of a body", x.ears(0, 0), -12);
        DUE.is("judge of a body", x.judge(0), -12);
        DUE.is("whoseCry of a body", x.whoseCry(0, 0, 0), -12);
        DUE.is("BAD ahead of -12", x.whoseCry(0, 600, 0), -1);
        for (int sort = 0; sort < 5; sort++) {
            x.row(0, sort, 0);
            DUE.is("sight of sort " + sort, x.sight(0, 0), sort == 0 ? 400 : -12);
            DUE.is("ears of sort " + sort, x.ears(0, 0), sort == 1 ? 0 : -12);
            DUE.is("judge of sort " + sort, x.judge(0), sort == 0 ? -2 : -12);
            DUE.is("whoseCry of sort " + sort, x.whoseCry(0, 0, 0), sort == 0 ? 1000 : -12);
        }
    }

    private static void sightIs(FellInField x, int many, int first, int fields, int ask) {
        DUE.is("how many", x.sight(0, 0), many);
        DUE.is("the first", x.sight(0, 1), first);
        DUE.is("fields", x.sight(0, 2), fields);
        DUE.is("ask", x.sight(0, 3), ask);
    }

    private static void sight() {
        FellInField x = new FellInField();
        x.field(0, 2002);
        x.field(0, 2003);
        x.field(0, 2003);
        Due.fill(x, 0, 0);
        sightIs(x, 400, 0, 3, 0);
        Due.fill(x, 0, 0, 5, 1, 0, 1);
        sightIs(x, 19, 25, 3, 0);
        Due.fill(x, 0, 0, 5, 1, 0, 1, 5, 1, 0, 1);
        sightIs(x, 19, 25, 3, 0);
        Due.fill(x, 0, 0, 5, 1, 0, 2);
        sightIs(x, 10, 25, 1, 0);
        Due.fill(x, 0, 0, 0, 10, 1, 0);
        sightIs(x, 20, 200, 0, 0);
        Due.fill(x, 0, 0, 19, 10, -9, 0);
        sightIs(x, 3, 201, 0, 1);
        Due.fill(x, 0, 0, 0, 3, 1, 0, 7, 0, 0, 1);
        sightIs(x, 1, 67, 0, 0);
        Due.fill(x, 0, 0, 0, 3, 2, 0, 7, 0, 0, 1);
        sightIs(x, 0, -2, 0, -2);
        Due.fill(x, 0, 0, 0, 3, -1, 0);
        sightIs(x, 1, 60, 0, 0);
        long[][] wrong = {{0, 0, 0, 0}, {-1, 0, 1, 0}, {20, 0, 1, 0}, {0, -1, 1, 0}, {0, 20, 1, 0}, {0, 0, 10, 0}, {0, 0, -10, 0},
            {0, 0, 0, 10}, {0, 0, 0, -10}, {0, 0, 1}, {0, 0, 1, 0, 0}, {0, 0, 1, 0, 0, 0, 1}, {0, 0, 1, 0, 0, 0, 0, 0}};
        for (long[] w : wrong) {
            Due.fill(x, 0, 0, w);
            sightIs(x, 0, -2, 0, -2);
        }
        long[] fifteen = new long[60];
        for (int i = 0; i < 60; i += 4) {
            fifteen[i] = i / 4;
            fifteen[i + 1] = 19;
            fifteen[i + 2] = 1;
        }
        Due.fill(x, 0, 0, fifteen);
        sightIs(x, 6, 394, 0, 14);
        x.mend(2, 0, 16);
        x.mend(2, 1, 19);
        sightIs(x, 6, 394, 4, 14);
    }

    private static void earsAre(FellInField x, int many, int first, int minute) {
        DUE.is("how many", x.ears(0, 0), many);
        DUE.is("the first", x.ears(0, 1), first);
        DUE.is("the minute", x.ears(0, 2), minute);
    }

    private static void ears() {
        FellInField x = new FellInField();
        Due.fill(x, 0, 1);
        earsAre(x, 0, -2, -2);
        Due.fill(x, 0, 1, 5, 5, 0);
        earsAre(x, 1, 105, 0);
        Due.fill(x, 0, 1, 5, 5, 1);
        earsAre(x, 5, 85, 0);
        Due.fill(x, 0, 1, 5, 5, 100);
        earsAre(x, 400, 0, 90);
        Due.fill(x, 0, 1, 19, 19, 32767);
        earsAre(x, 400, 0, 32729);
        Due.fill(x, 0, 1, 5, 5, -1);
        earsAre(x, 0, -2, -2);
        Due.fill(x, 0, 1, 5, 5, 50, 5, 5, 51);
        earsAre(x, 0, -2, -2);
        Due.fill(x, 0, 1, 0, 0, 10, 10, 0, 10);
        earsAre(x, 6, 5, 5);
        Due.fill(x, 0, 1, 0, 0, 12, 10, 0, 12, 5, 10, 12);
        earsAre(x, 0, -2, -2);
        Due.fill(x, 0, 1, 0, 0, 12, 10, 0, 12, 5, 10, 13);
        earsAre(x, 1, 45, 5);
        long[] twenty = new long[60];
        for (int i = 0; i < 60; i += 3) {
            twenty[i] = i / 3;
            twenty[i + 2] = 3 + i / 3;
        }
        Due.fill(x, 0, 1, twenty);
        earsAre(x, 4, 0, 3);
        long[][] wrong = {{-1, 0, 5}, {20, 0, 5}, {0, -1, 5}, {0, 20, 5}, {0, 0}, {0, 0, 5, 0}, {0, 0, 5, 0, 20, 5}};
        for (long[] w : wrong) {
            Due.fill(x, 0, 1, w);
            earsAre(x, 0, -2, -2);
        }
    }

    private static FellInField year() {
        FellInField x = new FellInField();
        x.field(0, 2010);
        x.mend(0, 4, 0);
        x.fall(0, 100);
        x.fall(0, 200);
        x.fall(399, 300);
        x.fall(0, 900);
        x.cry(1, 100);
        x.cry(1, 200);
        x.cry(2, 200);
        x.cry(3, 300);
        return x;
    }

    private static void judge() {
        FellInField x = year();
        Due.fill(x, 0, 0, 1, -1, -1, -1);
        DUE.is("so", x.judge(0), -2);
        Due.fill(x, 0, 0, 1, -1);
        DUE.is("so, as far as told", x.judge(0), -2);
        Due.fill(x, 0, 0, 1, -1, -1, -1, -1);
        DUE.is("one that is none", x.judge(0), 4);
        Due.fill(x, 0, 0, 2, -1, -1, -1);
        DUE.is("another's", x.judge(0), 0);
        Due.fill(x, 0, 0, 1, 1, -1, -1);
        DUE.is("several's", x.judge(0), 1);
        Due.fill(x, 0, 0, 1, -1, 3, -1);
        DUE.is("nobody paid", x.judge(0), 2);
        Due.fill(x, 0, 0, 1, -1, -1, 6);
        DUE.is("no such one", x.judge(0), 3);
        Due.fill(x, 0, 0, 1, -1, -1, -2);
        DUE.is("no such one", x.judge(0), 3);
        x.mend(2, 10, 1);
        Due.fill(x, 0, 0, 1, 1);
        DUE.is("two cries of one", x.judge(0), -2);
        Due.tell(x, "9*(d=0)");
        x.mend(2, 10, 0);
        DUE.is("the finder's own is not paid", x.judge(0), -2);
    }

    private static void whoseCry() {
        FellInField x = year();
        Due.fill(x, 0, 0, 4, -1);
        // Louder by 4, one more cry has fall 0 alone as long as it is at most three minutes off.
        DUE.is("louder", x.whoseCry(0, 409, 0), 7);
        DUE.is("the least", x.whoseCry(0, 409, 1), 97);
        DUE.is("as loud: shared", x.whoseCry(0, 405, 0), 0);
        DUE.is("as loud: shared", x.whoseCry(0, 405, 1), -2);
        DUE.is("of another wish", x.whoseCry(0, 419, 0), 1);
        DUE.is("of another wish", x.whoseCry(0, 419, 1), 100);
        DUE.is("of its own field", x.whoseCry(0, 9, 0), 0);
        Due.tell(x, "d=50&k=0&l=0");
        DUE.is("wl 400", x.whoseCry(0, 400, 0), 1);
        DUE.is("wl 400", x.whoseCry(0, 400, 1), 50);
        x = year();
        Due.fill(x, 0, 0, 4, -1);
        for (int wl : new int[] {-1, 40, 90, 600, 1000, Integer.MAX_VALUE, Integer.MIN_VALUE}) {
            DUE.is("whoseCry wl " + wl, x.whoseCry(0, wl, 0), -1);
        }
        Due.fill(x, 0, 0, -1, -1);
        // Shared with 1 if it comes in the fall's minute; four minutes off, a cry of LOUD 9 is alike.
        DUE.is("as loud", x.whoseCry(0, 405, 0), 1);
        DUE.is("as loud", x.whoseCry(0, 405, 1), 100);
        DUE.is("louder", x.whoseCry(0, 409, 0), 2);
        DUE.is("louder", x.whoseCry(0, 409, 1), 96);
        Due.fill(x, 0, 0, 1, -1, -1, 5);
        DUE.is("a fall without a cry", x.whoseCry(0, 505, 0), 35);
        DUE.is("a fall without a cry", x.whoseCry(0, 505, 1), 883);
        Due.fill(x, 0, 0, 1, -1, -1, -1, -1);
        DUE.is("one that is none", x.whoseCry(0, 505, 0), 0);
        DUE.is("cries as before", x.count(2), 4);
        for (int i = 4; i < 12; i++) {
            x.cry(5, 999);
        }
        DUE.is("FULL", x.whoseCry(0, 505, 0), -5);
        DUE.is("BAD ahead of STATE", x.whoseCry(0, 600, 0), -1);
        DUE.is("-11 ahead of STATE", x.whoseCry(1, 505, 0), -11);
        DUE.is("judge though FULL", x.judge(0), 4);
    }

    private static void drawn() {
        FellInField x = new FellInField();
        x.field(0, 2020);
        x.mend(0, 4, 2);
        x.cry(1, 30);
        Due.tell(x, "1");
        DUE.is("all", x.drawn(7, 3020, 0, 0), 600);
        DUE.is("all", x.drawn(7, 3020, 1, 2), 7200);
        DUE.is("one who owes nothing", x.drawn(7, 3020, 1, 1), 0);
        DUE.is("one is not looked at", x.drawn(7, 101, 0, 77), 1);
        Due.tell(x, "d=0&w=3");
        int had = 0;
        int z = -5;
        for (int i = 0; i < 600; i++) {
            z = z * 1103515245 + 12345;
            had += (z >>> 19) % 60 == 30 && (z >>> 27) % 4 == 3 ? 1 : 0;
        }
        DUE.is("by minute and what", x.drawn(-5, 3020, 0, 0), had);
        Due.tell(x, "1");
        x.mend(0, 2, 7);
        x.mend(0, 3, 3);
        had = 0;
        z = Integer.MIN_VALUE;
        for (int i = 0; i < 60; i++) {
            z = z * 1103515245 + 12345;
            had += (z >>> 8) % 20 < 7 && (z >>> 14) % 20 < 3 ? 1 : 0;
        }
        DUE.is("by place", x.drawn(Integer.MIN_VALUE, 512, 0, 0), had);
        DUE.is("by place", x.drawn(Integer.MIN_VALUE, 1205, 1, 2), 12 * had);
        x.cry(2, 0);
        DUE.is("halves", x.drawn(Integer.MIN_VALUE, 512, 1, 2), 6 * had);
        x.mend(0, 4, -1);
        DUE.is("nobody finds", x.drawn(Integer.MIN_VALUE, 512, 0, 0), 0);
        DUE.is("no fall came", x.count(1), 0);
        for (int nm : new int[] {0, 1, 100, 121, 20, 3101, -101, Integer.MAX_VALUE, Integer.MIN_VALUE}) {
            DUE.is("drawn nm " + nm, x.drawn(1, nm, 0, 0), -1);
        }
        DUE.is("no such what", x.drawn(1, 101, 2, 0), -1);
        DUE.is("no such what", x.drawn(1, 101, -1, 0), -1);
        DUE.is("no such one", x.drawn(1, 101, 1, 6), -1);
        DUE.is("no such one", x.drawn(1, 101, 1, -1), -1);
    }
}
