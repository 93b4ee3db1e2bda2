/** Promises 38 to 43: what shelves hold, and rows. */
public final class ShelfTest {
    private static final Due DUE = new Due("ShelfTest");
    private static final int[] ANY = {Integer.MIN_VALUE, -1, 6, Integer.MAX_VALUE};

    public static void main(String[] args) {
        kept();
        rows();
        elements();
        shifted();
        takenFor();
        DUE.end();
    }

    private static void kept() {
        FellInField x = new FellInField();
        x.body(2);
        for (int shelf : ANY) {
            DUE.is("no such shelf", x.keep(shelf, 0), -1);
            DUE.is("no such shelf", x.keep(shelf, -1), -1);
        }
        DUE.is("no such body", x.keep(0, 1), -1);
        DUE.is("no such body", x.keep(0, -2), -1);
        DUE.is("still nothing", x.taken(0, 0), -11);
        DUE.is("a body", x.keep(0, 0), 1);
        DUE.is("no such body", x.keep(0, 1), -1);
        DUE.is("stays", x.taken(0, 0), 2);
        DUE.is("nothing", x.keep(0, -1), 1);
        DUE.is("nothing", x.taken(0, 0), -11);
        x.row(0, 0, 3);
        DUE.is("nothing for a row", x.keep(0, -1), 1);
        DUE.is("nothing", x.element(0, 0), Long.MIN_VALUE);
        DUE.is("nothing", x.put(0, 0, 0), -11);
    }

    private static void rows() {
        FellInField x = new FellInField();
        for (int shelf : ANY) {
            DUE.is("no such shelf", x.row(shelf, 0, 1), -1);
            DUE.is("BAD ahead of -14", x.row(shelf, 0, -1), -1);
        }
        DUE.is("sort -1", x.row(0, -1, 1), -1);
        DUE.is("sort 5", x.row(0, 5, 1), -1);
        DUE.is("BAD ahead of -14", x.row(0, 5, -1), -1);
        DUE.is("n 61", x.row(0, 0, 61), -1);
        DUE.is("n -1", x.row(0, 0, -1), -14);
        DUE.is("n least", x.row(0, 0, Integer.MIN_VALUE), -14);
        DUE.is("still nothing", x.put(0, 0, 1), -11);
        for (int sort = 0; sort < 5; sort++) {
            rowsOf(sort);
        }
    }

    private static void rowsOf(int sort) {
        FellInField x = new FellInField();
        DUE.is("n 60", x.row(5, sort, 60), 1);
        for (int i = 0; i < 60; i++) {
            DUE.is("0 at first", x.element(5, i), 0);
            x.put(5, i, 7);
        }
        DUE.is("n 0", x.row(4, sort, 0), 1);
        DUE.is("no place", x.put(4, 0, 1), -13);
        DUE.is("refused", x.row(5, 0, -1), -14);
        DUE.is("stays", x.element(5, 59), sort == 4 ? 1 : 7);
        x.row(5, 2, 2);
        x.row(5, 2, 9);
        DUE.is("0 again", x.element(5, 8), 0);
    }

    private static void elements() {
        long[] vs = {0, 1, -1, 2, 127, 128, 255, 256, 300, -129, 32767, 32768, 65536, 1L << 31, 1L << 32, -1L << 40,
            Long.MAX_VALUE, Long.MIN_VALUE + 1, 0x123456789abcdef0L};
        FellInField x = new FellInField();
        x.body(0);
        x.keep(5, 0);
        for (int sort = 0; sort < 5; sort++) {
            x.row(sort, sort, 3);
            for (long v : vs) {
                long want = switch (sort) {
                    case 0 -> (byte) v;
                    case 1 -> (short) v;
                    case 2 -> (int) v;
                    case 3 -> v;
                    default -> v != 0 ? 1 : 0;
                };
                DUE.is("put", x.put(sort, 1, v), 1);
                DUE.is("element of sort " + sort, x.element(sort, 1), want);
                DUE.is("beside", x.element(sort, 0), 0);
                DUE.is("beside", x.element(sort, 2), 0);
            }
            for (int i : new int[] {-1, 3, 60, Integer.MAX_VALUE, Integer.MIN_VALUE}) {
                DUE.is("no place", x.put(sort, i, 1), -13);
                DUE.is("no place", x.element(sort, i), Long.MIN_VALUE);
            }
        }
        for (int shelf : ANY) {
            DUE.is("no such shelf", x.put(shelf, 0, 1), -1);
            DUE.is("no such shelf", x.element(shelf, 0), Long.MIN_VALUE);
        }
        DUE.is("a body", x.put(5, 99, 1), -12);
        DUE.is("a body", x.element(5, 0), Long.MIN_VALUE);
        x.keep(5, -1);
        DUE.is("nothing", x.put(5, 99, 1), -11);
    }

    private static void shifted() {
        FellInField x = new FellInField();
        x.body(0);
        x.keep(5, 0);
        Due.fill(x, 0, 2, 1, 2, 3, 4, 5);
        Due.fill(x, 1, 2, 11, 12, 13);
        Due.fill(x, 2, 3, 21, 22, 23);
        for (int shelf : ANY) {
            DUE.is("no such shelf", x.shift(shelf, 0, 0, 0, 1), -1);
            DUE.is("no such shelf", x.shift(4, 0, shelf, 0, 1), -1);
        }
        DUE.is("nothing", x.shift(4, 0, 5, 0, -1), -11);
        DUE.is("nothing", x.shift(5, 0, 4, 0, 1), -11);
        DUE.is("nothing ahead of a place", x.shift(0, 99, 4, 0, 1), -11);
        DUE.is("a body", x.shift(5, 0, 0, 0, -1), -12);
        DUE.is("a body", x.shift(0, 0, 5, 0, 1), -12);
        DUE.is("unlike sorts", x.shift(0, 99, 2, 0, 1), -12);
        x.row(4, 2, 3);
        x.keep(4, 0);
        DUE.is("a body where a row of that sort was", x.shift(4, 0, 0, 0, 1), -12);
        DUE.is("a body where a row of that sort was", x.shift(0, 0, 4, 0, 1), -12);
        x.keep(4, -1);
        int[][] noPlace = {{-1, 0, 1}, {0, -1, 1}, {0, 0, -1}, {5, 0, 1}, {0, 3, 1}, {4, 0, 2}, {0, 2, 2}, {0, 0, 4},
            {6, 0, 0}, {0, 4, 0}, {Integer.MAX_VALUE, 0, 1}, {0, Integer.MAX_VALUE, 3}, {1, 1, Integer.MAX_VALUE},
            {0, 0, Integer.MIN_VALUE}, {Integer.MIN_VALUE, 0, Integer.MIN_VALUE}, {3, 0, Integer.MAX_VALUE - 2}};
        for (int[] p : noPlace) {
            DUE.is("no place " + p[0] + " " + p[1] + " " + p[2], x.shift(0, p[0], 1, p[1], p[2]), -13);
        }
        rowIs(x, 1, 11, 12, 13);
        DUE.is("none", x.shift(0, 5, 1, 3, 0), 0);
        rowIs(x, 1, 11, 12, 13);
        DUE.is("two", x.shift(0, 3, 1, 1, 2), 2);
        rowIs(x, 1, 11, 4, 5);
        rowIs(x, 0, 1, 2, 3, 4, 5);
        DUE.is("the whole of itself", x.shift(0, 0, 0, 0, 5), 5);
        DUE.is("on, in itself", x.shift(0, 0, 0, 1, 4), 4);
        rowIs(x, 0, 1, 1, 2, 3, 4);
        DUE.is("back, in itself", x.shift(0, 1, 0, 0, 4), 4);
        rowIs(x, 0, 1, 2, 3, 4, 4);
    }

    private static void rowIs(FellInField x, int shelf, long... due) {
        for (int i = 0; i < due.length; i++) {
            DUE.is("element " + i, x.element(shelf, i), due[i]);
        }
    }

    private static void takenFor() {
        int[][] under = {{0}, {1, 0}, {2, 0}, {3, 2, 0}, {4, 1, 0}, {5, 3, 2, 0}, {6, 0}, {7, 6, 0}};
        FellInField x = new FellInField();
        for (int kind = 0; kind < 8; kind++) {
            x.body(kind);
        }
        for (int kind = 0; kind < 8; kind++) {
            x.keep(0, kind);
            for (int k = 0; k < 8; k++) {
                boolean is = false;
                for (int u : under[kind]) {
                    is |= u == k;
                }
                DUE.is("kind " + kind + " for " + k, x.taken(0, k), is ? kind : -12);
            }
        }
        DUE.is("k -1", x.taken(0, -1), -1);
        DUE.is("k 8", x.taken(0, 8), -1);
        DUE.is("BAD ahead of -11", x.taken(1, 8), -1);
        DUE.is("nothing", x.taken(1, 0), -11);
        x.row(1, 0, 1);
        DUE.is("a row", x.taken(1, 0), -12);
        for (int shelf : ANY) {
            DUE.is("no such shelf", x.taken(shelf, 0), -1);
        }
    }
}
