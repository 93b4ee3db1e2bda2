/** Boundaries of shelves and counts, sentence by sentence: promises 38 to 44. */
public final class EdgeShelfTest {
    private static final Due DUE = new Due("EdgeShelfTest");
    private static final int BAD = Edge.BAD;
    private static final int NOTHING = Edge.NOTHING;
    private static final int OTHER_KIND = Edge.OTHER_KIND;
    private static final int NO_PLACE = Edge.NO_PLACE;
    private static final int BELOW_0 = Edge.BELOW_0;
    private static final int MIN = Edge.MIN;
    private static final int MAX = Edge.MAX;

    public static void main(String[] args) {
        shelvesHold();
        keep();
        row();
        sixtyElements();
        zeroAtFirst();
        lowestBits();
        put();
        element();
        shift();
        asTheyAllWereBefore();
        noPlaces();
        taken();
        refusals();
        namedFirst();
        count();
        DUE.end();
    }

    private static void shelvesHold() {
        DUE.says("SHELVES 0 .. 5 each hold nothing (at first), a BODY, or a ROW");
        Run run = Edge.empty(DUE).does("body(3)");
        for (int shelf = 0; shelf < 6; shelf++) {
            run.keeps("taken(" + shelf + ", 0)", NOTHING).keeps("put(" + shelf + ", 0, 0)", NOTHING).keeps("judge(" + shelf + ")", NOTHING);
            run.is("row(" + shelf + ", 3, 1)", 1).is("put(" + shelf + ", 0, " + shelf + ")", 1);
        }
        for (int shelf = 0; shelf < 6; shelf++) {
            run.is("element(" + shelf + ", 0)", shelf).is("keep(" + shelf + ", 0)", 1).is("taken(" + shelf + ", 3)", 3);
            run.keeps("element(" + shelf + ", 0)", Long.MIN_VALUE).is("keep(" + shelf + ", -1)", 1).is("taken(" + shelf + ", 3)", NOTHING);
        }
    }

    private static void keep() {
        DUE.says("`int keep(int shelf, int body)`: A SHELF holds nothing (body -1), or a BODY: 1. BAD.");
        for (Run run : new Run[] {Edge.empty(DUE), Edge.some(DUE), Edge.full(DUE)}) {
            run.keepsEach("keep(?, 0)", BAD, Edge.NO_SHELF).keepsEach("keep(?, -1)", BAD, Edge.NO_SHELF);
        }
        Edge.empty(DUE).keepsEach("keep(0, ?)", BAD, MIN, -2, 0, 1, MAX).keeps("keep(0, -1)", 1).keeps("keep(5, -1)", 1);
        Run some = Edge.some(DUE).keepsEach("keep(0, ?)", BAD, MIN, -2, 2, 49, 50, MAX).keepsEach("keep(1, ?)", BAD, MIN, -2, 2, 50, MAX);
        some.keeps("keep(0, 1)", 1).are("keep(0, 0); taken(0, 0); keep(1, 1); taken(1, 0)", 1, 5, 1, 7);
        some.are("keep(2, -1); taken(2, 0); keep(0, -1); taken(0, 0)", 1, NOTHING, 1, NOTHING);
        Edge.full(DUE).keepsEach("keep(0, ?)", BAD, MIN, -2, 50, MAX).is("keep(0, 49)", 1).is("taken(0, 1)", 1);
    }

    private static void row() {
        DUE.says("`int row(int shelf, int sort, int n)`: A SHELF holds a ROW: 1. BAD (sort, n above 60); -14.");
        for (Run run : new Run[] {Edge.empty(DUE), Edge.some(DUE), Edge.full(DUE)}) {
            run.keepsEach("row(?, 0, 1)", BAD, Edge.NO_SHELF).keepsEach("row(?, 0, -1)", BAD, Edge.NO_SHELF);
            for (int shelf = 0; shelf < 6; shelf++) {
                run.keepsEach("row(" + shelf + ", ?, 1)", BAD, MIN, -1, 5, MAX).keepsEach("row(" + shelf + ", ?, -1)", BAD, MIN, -1, 5, MAX);
                run.keepsEach("row(" + shelf + ", 0, ?)", BAD, 61, 62, MAX).keepsEach("row(" + shelf + ", 4, ?)", BELOW_0, -1, -60, MIN);
            }
            for (int sort = 0; sort < 5; sort++) {
                run.keepsEach("row(1, " + sort + ", ?)", BAD, 61, MAX).keepsEach("row(1, " + sort + ", ?)", BELOW_0, -1, MIN);
            }
        }
    }

    private static void sixtyElements() {
        DUE.says("of 0 bytes, 1 shorts, 2 ints, 3 longs, 4 booleans, of 0 .. 60 elements, 0 at first (false)");
        for (int sort = 0; sort < 5; sort++) {
            for (int n : new int[] {0, 1, 2, 59, 60}) {
                Run run = Edge.empty(DUE).is("row(5, " + sort + ", " + n + ")", 1);
                for (int i = 0; i < n; i++) {
                    run.is("element(5, " + i + ")", 0).is("put(5, " + i + ", 1)", 1).is("element(5, " + i + ")", 1);
                }
                for (int i : new int[] {MIN, -1, n, n + 1, 60, MAX}) {
                    run.keeps("element(5, " + i + ")", Long.MIN_VALUE).keeps("put(5, " + i + ", 1)", NO_PLACE);
                }
            }
        }
    }

    private static void zeroAtFirst() {
        DUE.says("0 at first (false)");
        Run run = Edge.empty(DUE);
        for (int sort = 0; sort < 5; sort++) {
            run.does("row(0, " + sort + ", 60); put(0, 0, 1); put(0, 30, -1); put(0, 59, 1)").is("element(0, 59)", 1);
            run.does("row(0, " + (sort + 1) % 5 + ", 60)");
            for (int i = 0; i < 60; i++) {
                run.is("element(0, " + i + ")", 0);
            }
        }
        run.does("row(0, 0, 3); put(0, 2, 9); row(0, 0, 2)").keeps("element(0, 2)", Long.MIN_VALUE).does("row(0, 0, 3)").is("element(0, 2)", 0);
        run.does("put(0, 2, 9); body(0); keep(0, 0); keep(0, -1); row(0, 0, 3)").is("element(0, 2)", 0);
    }

    private static void lowestBits() {
        DUE.says("what is put in keeps its lowest bits (a boolean: whether it is not 0; 1 or 0).");
        long[] edges = {0, 1, -1, 127, 128, -128, -129, 255, 256, 257, 32767, 32768, -32768, -32769, 65535, 65536, 65537, MAX, MAX + 1L, MIN,
            MIN - 1L, 0xffffffffL, 0x100000000L, 0x100000001L, Long.MAX_VALUE, Long.MIN_VALUE, Long.MIN_VALUE + 1, 0x8000000000000080L};
        for (long v : edges) {
            long[] due = {(v & 255) - (v & 128) * 2, (v & 65535) - (v & 32768) * 2, (v & 0xffffffffL) - (v & 0x80000000L) * 2, v, v == 0 ? 0 : 1};
            for (int sort = 0; sort < 5; sort++) {
                Run run = Edge.empty(DUE).does("row(2, " + sort + ", 3)").is("put(2, 1, " + v + ")", 1).is("element(2, 1)", due[sort]);
                run.are("element(2, 0); element(2, 2)", 0, 0).is("put(2, 1, 0)", 1).is("element(2, 1)", 0);
            }
        }
    }

    private static void put() {
        DUE.says("`int put(int shelf, int i, long v)`: Element i of a ROW becomes v: 1. BAD, -11, -12, -13.");
        for (Run run : new Run[] {Edge.empty(DUE), Edge.some(DUE), Edge.full(DUE)}) {
            run.keepsEach("put(?, 0, LONG_MAX)", BAD, Edge.NO_SHELF).keepsEach("put(?, -1, LONG_MIN)", BAD, Edge.NO_SHELF);
        }
        Edge.empty(DUE).keepsEach("put(?, 0, 1)", NOTHING, 0, 1, 2, 3, 4, 5).keepsEach("put(0, ?, 1)", NOTHING, MIN, -1, 60, MAX);
        Run some = Edge.some(DUE).keepsEach("put(0, ?, 1)", OTHER_KIND, MIN, -1, 0, 60, MAX).keepsEach("put(5, ?, 1)", NOTHING, MIN, -1, 0, 60, MAX);
        some.keepsEach("put(1, ?, 1)", NO_PLACE, MIN, -1, 7, 59, 60, MAX).keepsEach("put(3, ?, 1)", NO_PLACE, MIN, -1, 3, 60, MAX);
        some.keepsEach("put(4, ?, 1)", NO_PLACE, MIN, -1, 2, 60, MAX).keepsEach("put(2, ?, 1)", NO_PLACE, MIN, -1, 8, 60, MAX);
        for (int shelf = 0; shelf < 5; shelf++) {
            Edge.full(DUE).keepsEach("put(" + shelf + ", ?, 1)", NO_PLACE, MIN, -1, 60, MAX).is("put(" + shelf + ", 0, 1)", 1);
        }
        some.are("put(1, 0, 5); element(1, 0); put(1, 6, 6); element(1, 6); element(1, 1)", 1, 5, 1, 6, 19);
    }

    private static void element() {
        DUE.says("`long element(int shelf, int i)`: Element i of a ROW; Long.MIN_VALUE: BAD, -11 to -13.");
        for (Run run : new Run[] {Edge.empty(DUE), Edge.some(DUE), Edge.full(DUE)}) {
            run.keepsEach("element(?, 0)", Long.MIN_VALUE, Edge.NO_SHELF).keepsEach("element(?, -1)", Long.MIN_VALUE, Edge.NO_SHELF);
        }
        Edge.empty(DUE).keepsEach("element(?, 0)", Long.MIN_VALUE, 0, 1, 2, 3, 4, 5);
        Run some = Edge.some(DUE).keepsEach("element(0, ?)", Long.MIN_VALUE, MIN, -1, 0, 60, MAX);
        some.keepsEach("element(5, ?)", Long.MIN_VALUE, MIN, -1, 0, 60, MAX).keepsEach("element(1, ?)", Long.MIN_VALUE, MIN, -1, 7, 60, MAX);
        some.keeps("element(1, 0)", 19).keeps("element(1, 6)", 7).keeps("element(3, 0)", Long.MIN_VALUE).keeps("element(3, 2)", Long.MAX_VALUE);
        Edge.full(DUE).keepsEach("element(0, ?)", Long.MIN_VALUE, MIN, -1, 60, MAX).keeps("element(0, 59)", 77);
    }

    private static void shift() {
        DUE.says("`int shift(int shelf, int i, int other, int j, int n)`: n elements of a ROW from i on come to another one (or the same) "
                + "from j on, as they all were before: n. BAD, -11 (either), -12 (no ROWS, or of unlike sorts), -13 (n below 0, too).");
        for (Run run : new Run[] {Edge.empty(DUE), Edge.some(DUE), Edge.full(DUE)}) {
            run.keepsEach("shift(?, 0, 1, 0, 1)", BAD, Edge.NO_SHELF).keepsEach("shift(1, 0, ?, 0, 1)", BAD, Edge.NO_SHELF);
            run.keepsEach("shift(?, -1, 5, -1, -1)", BAD, Edge.NO_SHELF).keepsEach("shift(5, -1, ?, -1, -1)", BAD, Edge.NO_SHELF);
        }
        Edge.empty(DUE).keeps("shift(0, 0, 0, 0, 0)", NOTHING).keeps("shift(0, 0, 5, 0, 0)", NOTHING).keeps("shift(5, -1, 0, 99, -1)", NOTHING);
        Run some = Edge.some(DUE);
        some.keepsEach("shift(5, 0, ?, 0, 1)", NOTHING, 0, 1, 2, 3, 4, 5).keepsEach("shift(?, 0, 5, 0, 1)", NOTHING, 0, 1, 2, 3, 4, 5);
        some.keepsEach("shift(0, 0, ?, 0, 1)", OTHER_KIND, 0, 1, 2, 3, 4).keepsEach("shift(?, 0, 0, 0, 1)", OTHER_KIND, 1, 2, 3, 4);
        for (int shelf = 1; shelf <= 4; shelf++) {
            for (int other = 1; other <= 4; other++) {
                if (shelf != other) {
                    some.keeps("shift(" + shelf + ", -1, " + other + ", 99, -1)", OTHER_KIND);
                    some.keeps("shift(" + shelf + ", 0, " + other + ", 0, 1)", OTHER_KIND);
                }
            }
        }
        Run longs = some.does("row(5, 3, 2)").is("shift(3, 1, 5, 0, 2)", 2);
        longs.are("element(5, 0); element(5, 1); element(3, 1)", 0, Long.MAX_VALUE, 0).keeps("shift(3, 3, 5, 2, 0)", 0);
        Run all = Edge.full(DUE).is("shift(0, 0, 0, 0, 60)", 60).is("element(0, 59)", 77).is("shift(0, 59, 0, 0, 1)", 1).is("element(0, 0)", 77);
        all.does("keep(5, -1); row(5, 0, 60)").is("shift(0, 0, 5, 0, 60)", 60).is("element(5, 59)", 77).is("element(5, 0)", 77);
    }

    private static void asTheyAllWereBefore() {
        DUE.says("as they all were before: n.");
        for (int sort = 0; sort < 4; sort++) {
            for (int i = 0; i <= 5; i++) {
                for (int j = 0; j <= 5; j++) {
                    for (int n = 0; n <= 5 - Math.max(i, j); n++) {
                        long[] row = {11, 12, 13, 14, 15};
                        Run run = Edge.empty(DUE).row(0, sort, row).is("shift(0, " + i + ", 0, " + j + ", " + n + ")", n);
                        for (int k = 0; k < 5; k++) {
                            run.is("element(0, " + k + ")", k >= j && k < j + n ? row[k - j + i] : row[k]);
                        }
                    }
                }
            }
        }
    }

    private static void noPlaces() {
        DUE.says("-13 (n below 0, too)");
        Run run = Edge.empty(DUE).row(0, 2, 1, 2, 3, 4, 5).row(1, 2, 6, 7, 8);
        long[][] none = {{-1, 0, 0}, {0, -1, 0}, {0, 0, -1}, {6, 0, 0}, {0, 4, 0}, {5, 0, 1}, {0, 3, 1}, {4, 0, 2}, {0, 2, 2}, {0, 0, 4}, {2, 0, 4},
            {MIN, 0, 0}, {0, MIN, 0}, {0, 0, MIN}, {MAX, 0, 0}, {0, MAX, 0}, {0, 0, MAX}, {MAX, 0, 1}, {0, MAX, 1}, {1, 0, MAX}, {MAX, MAX, MAX},
            {MIN, MIN, MIN}, {-1, -1, 2}, {-3, 0, 3}, {MAX - 1, 0, 2}, {0, MAX - 1, 2}, {5, 3, -1}, {MIN, 0, MAX}};
        for (long[] p : none) {
            run.keeps("shift(0, " + p[0] + ", 1, " + p[1] + ", " + p[2] + ")", NO_PLACE);
        }
        run.keeps("shift(0, 5, 1, 3, 0)", 0).keeps("shift(0, 0, 1, 0, 0)", 0).is("shift(0, 2, 1, 0, 3)", 3).is("element(1, 2)", 5);
        Run empty = Edge.empty(DUE).does("row(0, 2, 0)").keeps("shift(0, 0, 0, 0, 0)", 0).keeps("shift(0, 0, 0, 0, 1)", NO_PLACE);
        empty.keeps("shift(0, 1, 0, 0, 0)", NO_PLACE).keeps("shift(0, 0, 0, 1, 0)", NO_PLACE);
    }

    private static void taken() {
        DUE.says("`int taken(int shelf, int k)`: What a SHELF holds, taken for a BODY of KIND k (0 .. 7), or under it: its KIND. BAD, -11, -12.");
        for (Run run : new Run[] {Edge.empty(DUE), Edge.some(DUE), Edge.full(DUE)}) {
            run.keepsEach("taken(?, 0)", BAD, Edge.NO_SHELF).keepsEach("taken(0, ?)", BAD, MIN, -1, 8, MAX);
            run.keepsEach("taken(5, ?)", BAD, MIN, -1, 8, MAX).keepsEach("taken(1, ?)", BAD, MIN, -1, 8, MAX);
        }
        Edge.empty(DUE).keepsEach("taken(?, 7)", NOTHING, 0, 1, 2, 3, 4, 5);
        Run some = Edge.some(DUE).keepsEach("taken(5, ?)", NOTHING, 0, 7).keepsEach("taken(?, 0)", OTHER_KIND, 1, 2, 3, 4);
        some.keepsEach("taken(0, ?)", 7, 0, 6, 7).keepsEach("taken(0, ?)", OTHER_KIND, 1, 2, 3, 4, 5);
        Edge.full(DUE).keepsEach("taken(5, ?)", 1, 0, 1).keepsEach("taken(5, ?)", OTHER_KIND, 2, 3, 4, 5, 6, 7);
    }

    private static void refusals() {
        DUE.says("The host's REFUSALS: -11 nothing is there where something is wanted; -12 it is of another kind; -13 a place that is not "
                + "there; -14 a size below 0.");
        Run run = Edge.empty(DUE).does("body(0); keep(1, 0); row(2, 0, 2)");
        run.keeps("put(0, 0, 0)", NOTHING).keeps("put(1, 0, 0)", OTHER_KIND).keeps("put(2, 2, 0)", NO_PLACE).keeps("row(3, 0, -1)", BELOW_0);
        run.keeps("taken(0, 0)", NOTHING).keeps("taken(2, 0)", OTHER_KIND).keeps("taken(1, 1)", OTHER_KIND);
    }

    private static void namedFirst() {
        DUE.says("Answers, of several the one named first: BAD (-1): no such number, or it is not as said; NOT (-2): as told; FULL (-3); "
                + "STATE (-5): as told; -11 to -14.");
        Run run = Edge.full(DUE).does("keep(5, -1)");
        run.keeps("field(400, 101)", BAD).keeps("fall(0, 1000)", BAD).keeps("cry(6, 0)", BAD).keeps("feed(256)", BAD).keeps("body(8)", BAD);
        run.keeps("falls(0, -1, 11)", BAD).keeps("find(10)", BAD).keeps("pay(11, 999)", BAD).keeps("pay(1, 1000)", BAD);
        run.keeps("whoseCry(5, 600, 0)", BAD).keeps("whoseCry(0, 600, 0)", BAD).keeps("whoseCry(0, 0, 0)", Edge.STATE);
        run.keeps("row(6, 5, -1)", BAD).keeps("row(0, 5, MIN)", BAD).keeps("put(6, -1, 0)", BAD).keeps("put(5, -1, 0)", NOTHING);
        run.keeps("sight(5, 4)", BAD).keeps("ears(0, 3)", BAD).keeps("taken(5, 8)", BAD).keeps("shift(6, 0, 5, 0, -1)", BAD);
        run.keeps("shift(5, -1, 0, 0, -1)", NOTHING).keeps("shift(0, -1, 5, 0, -1)", NOTHING).keeps("shift(0, -1, 1, 0, -1)", OTHER_KIND);
        run.keeps("shift(0, -1, 0, 0, -1)", NO_PLACE);
        run.does("keep(4, 0)").keeps("put(4, -1, 0)", OTHER_KIND).keeps("shift(4, 0, 5, 0, 0)", NOTHING).keeps("shift(4, -1, 0, 0, 0)", OTHER_KIND);
    }

    private static void count() {
        DUE.says("`int count(int what)`: How many: 0 FIELDS, 1 FALLS, 2 CRIES, 3 bytes on THE TAPE, 4 changes that may be UNDONE, 5 BODIES, "
                + "6 bodies that ran in the latest act() (all, kept or not). BAD.");
        for (Run run : new Run[] {Edge.empty(DUE), Edge.some(DUE), Edge.full(DUE)}) {
            run.keepsEach("count(?)", BAD, MIN, -1, 7, 8, MAX);
        }
        int[] none = {0, 0, 0, 0, 0, 0, 0};
        int[] some = {3, 3, 3, 2, 5, 2, 8};
        int[] full = {8, 10, 12, 120, 40, 50, 0};
        for (int what = 0; what < 7; what++) {
            Edge.empty(DUE).keeps("count(" + what + ")", none[what]);
            Edge.some(DUE).keeps("count(" + what + ")", some[what]);
            Edge.full(DUE).keeps("count(" + what + ")", full[what]);
        }
    }
}
