/** Boundaries of bodies, acts and the trace, sentence by sentence: promises 35 to 37. */
public final class EdgeBodyTest {
    private static final Due DUE = new Due("EdgeBodyTest");
    private static final int BAD = Edge.BAD;
    private static final int FULL = Edge.FULL;
    private static final int MIN = Edge.MIN;
    private static final int MAX = Edge.MAX;

    public static void main(String[] args) {
        bodiesByCall();
        body();
        kinds();
        act();
        noSuchAct();
        wraps();
        nIsItsNumber();
        ownOrNextAbove();
        trace();
        asTheyBegan();
        DUE.end();
    }

    private static void bodiesByCall() {
        DUE.says("BODIES 0 .. 49 are kept by call");
        Run run = Edge.empty(DUE);
        for (int n = 0; n < 50; n++) {
            run.keeps("keep(0, " + n + ")", BAD).is("act(" + n + ", 0, 5)", 0);
            run.is("body(" + n % 8 + ")", n).is("count(5)", n + 1).is("keep(0, " + n + ")", 1).is("taken(0, " + n % 8 + ")", n % 8);
        }
        run.keepsEach("keep(1, ?)", BAD, MIN, -2, 50, 51, MAX);
    }

    private static void body() {
        DUE.says("`int body(int kind)`: A BODY of a KIND (0 .. 7) is kept: its number. BAD, FULL.");
        for (Run run : new Run[] {Edge.empty(DUE), Edge.some(DUE), Edge.full(DUE)}) {
            run.keepsEach("body(?)", BAD, MIN, -1, 8, MAX);
        }
        Edge.full(DUE).keepsEach("body(?)", FULL, 0, 1, 2, 3, 4, 5, 6, 7);
        Run run = Edge.empty(DUE);
        for (int n = 0; n < 49; n++) {
            run.does("body(0)");
        }
        run.is("body(7)", 49).keeps("body(0)", FULL).keeps("body(7)", FULL).is("count(5)", 50).is("act(49, 0, 0)", 97);
    }

    private static void kinds() {
        DUE.says("of KINDS: 0 STAR; 1 NAIL under STAR; 2 HINGE under STAR; 3 SPOON under HINGE; 4 CRY under NAIL; 5 HEDGE under SPOON; "
                + "6 PAWN under STAR; 7 NOTHING under PAWN.");
        int[][] above = {{0}, {1, 0}, {2, 0}, {3, 2, 0}, {4, 1, 0}, {5, 3, 2, 0}, {6, 0}, {7, 6, 0}};
        for (int kind = 0; kind < 8; kind++) {
            Run run = Edge.empty(DUE).does("body(" + kind + "); keep(3, 0)");
            for (int k = 0; k < 8; k++) {
                boolean under = false;
                for (int a : above[kind]) {
                    under |= a == k;
                }
                run.keeps("taken(3, " + k + ")", under ? kind : Edge.OTHER_KIND);
            }
        }
    }

    private static void act() {
        DUE.says("ACTS with x (an int that wraps): 0 falls, 1 wishes, 2 owes, 3 tells; n its number.");
        Run run = Edge.empty(DUE).does("body(0); body(0)");
        run.are("act(1, 0, 5); act(1, 1, 5); act(1, 2, 5); act(1, 3, 5)", 6, 12, 4, 12);
        run.are("act(0, 0, 5); act(0, 1, 5); act(0, 2, 5); act(0, 3, 5)", 5, 10, 5, 9);
    }

    private static void noSuchAct() {
        DUE.says("`int act(int body, int act, int x)`: An ACT (0 .. 3) of a BODY with x. 0, and no TRACE then: no such BODY, ACT.");
        for (String call : new String[] {"act(?, 0, 5)", "act(?, 3, MAX)"}) {
            for (long body : new long[] {MIN, -1, 2, 50, MAX}) {
                noTrace(Edge.some(DUE), call.replace("?", Long.toString(body)));
            }
            for (long body : new long[] {MIN, -1, 50, MAX}) {
                noTrace(Edge.full(DUE).does("act(49, 3, 5)"), call.replace("?", Long.toString(body)));
            }
        }
        for (long act : new long[] {MIN, -1, 4, MAX}) {
            noTrace(Edge.some(DUE), "act(0, " + act + ", 5)");
            noTrace(Edge.full(DUE).does("act(49, 3, 5)"), "act(49, " + act + ", 5)");
        }
        noTrace(Edge.some(DUE), "act(MIN, MIN, MIN)");
        Edge.empty(DUE).keeps("act(0, 0, 0)", 0).keeps("act(MAX, MAX, MAX)", 0);
    }

    /** The act is 0, and all but the trace is as it was. */
    private static void noTrace(Run run, String call) {
        run.is("trace(0)", 2);
        Run acted = new Run(run).is(call, 0).is("count(6)", 0).is("trace(0)", BAD).is("trace(23)", BAD).keeps(call, 0);
        for (Call probe : Probes.GROUPS.get(0)) {
            if (!probe.name.equals("trace") && !probe.text.equals("count(6)")) {
                DUE.is("behind " + call + ", " + probe.text, acted.make(probe), run.make(probe));
            }
        }
    }

    private static void wraps() {
        DUE.says("ACTS with x (an int that wraps)");
        Run run = Edge.empty(DUE).does("body(0); body(0); body(2); body(3); body(4); body(5); body(6); body(7)");
        run.are("act(0, 0, MAX); act(1, 0, MAX); act(1, 0, MIN)", MAX, MIN, MIN + 1);
        run.are("act(1, 1, MAX); act(1, 1, MIN); act(0, 1, MIN)", 0, 2, 0);
        run.are("act(1, 2, MAX); act(1, 2, MIN); act(0, 2, MIN)", MAX - 1, MIN + 1, MIN);
        run.are("act(0, 3, MAX); act(0, 3, MIN)", -3, -1);
        run.are("act(2, 1, MAX); act(2, 1, 1073741822)", -2, MIN);
        run.are("act(3, 1, MAX); act(3, 2, MAX)", -6, (MAX ^ 3) * 3);
        run.are("act(4, 0, MAX); act(4, 3, MIN)", MIN + 6, (2 * (MIN + 7) - (1 ^ 4)) ^ 5);
        run.are("act(5, 2, MIN); act(5, 2, MAX)", (MIN ^ 5) * 3 - 7, (MAX ^ 5) * 3 - 7);
        run.are("act(6, 0, MAX); act(7, 0, MAX); act(7, 0, MIN)", 10, 11, 13);
    }

    private static void nIsItsNumber() {
        DUE.says("n its number");
        Run run = Edge.full(DUE);
        run.are("act(0, 0, 0); act(48, 0, 0); act(49, 0, 0); act(40, 2, 1); act(8, 0, -8)", 0, 48, 52, 41, 0);
    }

    private static void ownOrNextAbove() {
        DUE.says("falls(..) and so on: the body of its own KIND, or of the next KIND above that has one; super: from the KIND above the "
                + "body's on.");
        // By the document's words alone, n the kind's number: which bodies run, and in which order.
        int[][][] ran = {
            {{1}, {10, 1}, {11}, {2, 10, 1, 11}},
            {{20, 1}, {10, 20, 1}, {11}, {2, 10, 20, 1, 11}},
            {{1}, {30, 10, 1}, {11}, {2, 30, 10, 1, 11}},
            {{1}, {41, 30, 10, 1}, {40, 11}, {2, 41, 30, 10, 1, 40, 11}},
            {{20, 1}, {10, 20, 1}, {11}, {50, 2, 10, 20, 1, 11}},
            {{1}, {41, 30, 10, 1}, {60, 40, 11, 1}, {61, 2, 41, 30, 10, 1, 60, 40, 11, 1}},
            {{70, 1}, {10, 70, 1}, {11}, {2, 10, 70, 1, 11}},
            {{81, 70, 1}, {80, 10, 81, 70, 1, 11}, {11}, {2, 80, 10, 81, 70, 1, 11, 11}},
        };
        long[][] answers = {{5, 10, 5, 9}, {9, 18, 4, 18}, {7, -14, 7, -17}, {8, -18, 18, -24}, {12, 24, 1, 22}, {10, -22, -7, -26},
            {22, 44, 3, 37}, {23, 51, 2, 45}};
        Run run = Edge.empty(DUE).does("body(0); body(1); body(2); body(3); body(4); body(5); body(6); body(7)");
        for (int kind = 0; kind < 8; kind++) {
            for (int act = 0; act < 4; act++) {
                run.is("act(" + kind + ", " + act + ", 5)", answers[kind][act]).is("count(6)", ran[kind][act].length);
                for (int i = 0; i < ran[kind][act].length; i++) {
                    run.is("trace(" + i + ")", ran[kind][act][i]);
                }
                run.is("trace(" + ran[kind][act].length + ")", BAD);
            }
        }
    }

    private static void trace() {
        DUE.says("`int trace(int i)`: THE TRACE's i-th body. BAD.");
        Edge.empty(DUE).keepsEach("trace(?)", BAD, MIN, -1, 0, 1, 23, 24, MAX);
        Edge.empty(DUE).does("body(0)").keepsEach("trace(?)", BAD, -1, 0).does("act(0, 0, 0)").keeps("trace(0)", 1).keeps("trace(1)", BAD);
        Run some = Edge.some(DUE).keepsEach("trace(?)", BAD, MIN, -1, 8, 9, 23, 24, MAX).keeps("trace(0)", 2).keeps("trace(7)", 11);
        some.does("act(0, 3, 5)").is("trace(9)", 1).keepsEach("trace(?)", BAD, -1, 10, 23, 24);
    }

    private static void asTheyBegan() {
        DUE.says("THE TRACE: numbers of the bodies that ran in the latest act(), as they began; the first 24 are kept.");
        Run run = Edge.some(DUE).is("count(6)", 8).does("act(1, 2, 5)").are("count(6); trace(0); trace(1)", 1, 11, BAD);
        run.does("act(1, 1, 5)").are("count(6); trace(0); trace(1); trace(5); trace(6)", 6, 80, 10, 11, BAD);
        run.does("act(0, 0, 5)").are("count(6); trace(0); trace(1)", 1, 1, BAD);
        run.does("mend(0, 5, 1); undo(); find(2); body(0); keep(0, 0)").are("count(6); trace(0); taken(0, 0)", 1, 1, 5);
    }
}
