/** The numbers of the document's answers, and the states from which the edge tests go on. */
final class Edge {
    static final int BAD = -1;
    static final int NOT = -2;
    static final int FULL = -3;
    static final int STATE = -5;
    static final int NOTHING = -11;
    static final int OTHER_KIND = -12;
    static final int NO_PLACE = -13;
    static final int BELOW_0 = -14;
    static final int VOID = -2000000000;
    static final int MIN = Integer.MIN_VALUE;
    static final int MAX = Integer.MAX_VALUE;
    /** No shelf has these numbers. */
    static final long[] NO_SHELF = {MIN, -1, 6, MAX};
    /** WIDE and DEEP as they may not be: one of them 0, above 20, or all below 0. */
    static final long[] NO_SIZE = {MIN, -2020, -101, -1, 0, 1, 20, 99, 100, 121, 199, 2000, 2021, 2100, 2101, 2120, MAX};
    /** No two of the people. */
    static final long[] NO_PAIR = {6, 9, 16, 56, 59, 60, 65, 99, 100, 101, MAX};

    private Edge() {
    }

    static Run empty(Due due) {
        return new Run(due);
    }

    /**
     * Of everything there is something, and nothing is full: 3 fields (1's, 5's, nobody's), 3 falls (two found), 3
     * cries, a law, a tape of two bytes, an image, changes done and undone, 2 bodies, an act; shelf 0 holds body 1,
     * 1 shorts, 2 bytes, 3 longs, 4 booleans, 5 nothing.
     */
    static Run some(Due due) {
        return new Run(due, "field(42, 505); field(45, 804); field(380, 101); mend(0, 4, 1); mend(1, 4, 2); mend(1, 5, 25)",
                "fall(64, 100); fall(47, 104); fall(399, 300); cry(3, 101); cry(0, 104); cry(1, 99); mend(1, 13, 7)")
                .law("20-d+l")
                .are("find(0); pay(13, 2); image(); find(1); give(1, 5)", 6, 4, 1, 12, 2)
                .are("mend(0, 9, 2); mend(0, 5, 33); mend(2, 12, 3); undo(); undo()", 0, 10, 0, 6, 5)
                .tape("1+")
                .are("body(5); body(7); act(1, 3, 9); keep(0, 1)", 0, 1, 41, 1)
                .row(1, 1, 19, 19, 999, 0, 0, 0, 7)
                .row(2, 0, 4, 0, 0, 1, 0, 3, 1, 0)
                .row(3, 3, Long.MIN_VALUE, 0, Long.MAX_VALUE)
                .row(4, 4, 0, 1);
    }

    /** All is full: fields, falls, cries, the tape, changes, bodies, shelves with rows of 60 (5 holds the last body). */
    static Run full(Due due) {
        Run run = new Run(due);
        for (int i = 0; i < 8; i++) {
            run.is("field(" + 45 * i + ", " + (100 * (i + 1) + 20 - i) + ")", i);
        }
        for (int i = 0; i < 10; i++) {
            run.is("fall(" + 41 * i + ", " + 100 * i + ")", i);
        }
        for (int i = 0; i < 12; i++) {
            run.is("cry(" + i % 6 + ", " + 90 * i + ")", i);
        }
        for (int i = 0; i < 41; i++) {
            run.does("mend(" + i % 8 + ", " + (i < 7 ? 4 : 5) + ", " + (i < 7 ? i % 6 : 20 + i) + ")");
        }
        run.law("l+9-d/50").does("find(0); image(); find(1); give(7, 3)").tape("10" + "+1".repeat(59));
        for (int i = 0; i < 50; i++) {
            run.is("body(" + i % 8 + ")", i);
        }
        for (int i = 0; i < 5; i++) {
            run.does("row(" + i + ", " + i + ", 60)");
        }
        return run.does("put(0, 59, 77); put(1, 0, 20); put(3, 7, LONG_MAX); keep(5, 49)");
    }

    /** All of those, and behind them one more. */
    static long[] and(long[] values, long... more) {
        long[] all = java.util.Arrays.copyOf(values, values.length + more.length);
        System.arraycopy(more, 0, all, values.length, more.length);
        return all;
    }
}
