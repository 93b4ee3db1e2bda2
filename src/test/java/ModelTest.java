import java.util.Arrays;
import java.util.Random;

/** Drawn lands, laws and rows: the class against the slow model (promises 8 to 26). */
public final class ModelTest {
    private static final Due DUE = new Due("ModelTest");
    private static final String SIGNS = "0123456789dwklhs|&<=>+-*/%!()?;";
    private static final String[] LAWS = {"20-d+l*s+h", "9*(w=k)-d/7", "d<6?l;d<40&w=k?l/2;0", "1", "h?9-l;l", "(d<10)*(5-w)",
        "3-d%4", "s?7;k+1", "l>4|h", "9999*9999*l-d", "!h*(30-d)/(w-1)"};

    private static String name = "";

    public static void main(String[] args) {
        lawTexts();
        for (int run = 0; run < 60; run++) {
            night(new Random(run), run);
        }
        DUE.end();
    }

    private static void lawTexts() {
        Random random = new Random(44);
        Model m = new Model();
        m.falls.add(new int[] {0, 0, 7, 0});
        m.cries.add(new int[] {0, 3, 0, 5});
        for (int i = 0; i < 4000; i++) {
            String text = i % 4 == 0 ? anySigns(random) : line(random);
            if (i % 4 == 3) {
                int at = random.nextInt(text.length());
                text = text.substring(0, at) + SIGNS.charAt(random.nextInt(SIGNS.length())) + text.substring(at + random.nextInt(2));
            }
            lawText(m, text.length() > 120 ? text.substring(0, 120) : text);
        }
    }

    /** The text told behind the latest law that stood. */
    private static void lawText(Model m, String text) {
        FellInField x = new FellInField();
        x.fall(0, 7);
        x.cry(0, 3);
        if (m.law != null) {
            DUE.is("law of " + m.law, Due.tell(x, m.law), 1);
        }
        int fault = ModelLaw.fault(text);
        DUE.is("law of " + text, Due.tell(x, text), fault < 0 ? 1 : -100 - fault);
        m.law = fault < 0 ? text : m.law;
        DUE.is("counts by " + m.law, x.counts(0), m.counts(0, 0));
    }

    private static String anySigns(Random random) {
        StringBuilder b = new StringBuilder();
        int length = random.nextInt(12);
        for (int i = 0; i < length; i++) {
            b.append(SIGNS.charAt(random.nextInt(SIGNS.length())));
        }
        return b.toString();
    }

    private static String line(Random random) {
        String lines = "";
        for (int i = random.nextInt(3); i >= 0; i--) {
            lines += expression(random, 4) + (random.nextBoolean() ? "?" + expression(random, 3) : "") + (i > 0 ? ";" : "");
        }
        return lines;
    }

    private static String expression(Random random, int depth) {
        int kind = depth == 0 ? random.nextInt(2) : random.nextInt(9);
        if (kind == 0) {
            return "" + random.nextInt(random.nextBoolean() ? 4 : 10000);
        }
        if (kind == 1) {
            return "" + "dwklhs".charAt(random.nextInt(6));
        }
        String first = expression(random, depth - 1);
        if (kind == 2) {
            return "!" + first;
        }
        if (kind == 3) {
            return "-" + first;
        }
        if (kind == 4) {
            return "(" + first + ")";
        }
        return first + "|&<=>+-*/%".charAt(random.nextInt(10)) + expression(random, depth - 1);
    }

    private static void night(Random random, int run) {
        Run x = new Run(DUE);
        Model m = new Model();
        build(random, run, x, m);
        name = "run " + run + ": ";
        cells(x, m);
        falls(x, m);
        people(x, m);
        ifOnly(random, x, m);
        drawn(random, x, m);
        years(random, x, m);
        witnesses(random, x, m);
    }

    private static void is(Run x, int want, String call, Object... arguments) {
        Call asked = Call.of(call, arguments);
        DUE.is(name + asked.text, x.make(asked), want);
    }

    private static void build(Random random, int run, Run x, Model m) {
        for (int i = random.nextInt(9); i > 0; i--) {
            int xy = random.nextInt(400);
            int wd = 100 * (1 + random.nextInt(20)) + 1 + random.nextInt(20);
            int[] f = {xy % 20, xy / 20, wd / 100, wd % 100, random.nextInt(7) - 1, random.nextInt(30)};
            int field = m.fields.size();
            x.does("field(" + xy + ", " + wd + "); mend(" + field + ", 4, " + f[4] + "); mend(" + field + ", 5, " + f[5] + ")");
            m.fields.add(f);
        }
        int span = run % 3 == 0 ? 1000 : run % 3 == 1 ? 30 : 4;
        int from = random.nextInt(1001 - span);
        for (int i = random.nextInt(11); i > 0; i--) {
            int[] f = {random.nextInt(20), random.nextInt(20), from + random.nextInt(span), random.nextInt(4)};
            x.does("fall(" + (20 * f[1] + f[0]) + ", " + f[2] + "); mend(" + m.falls.size() + ", 9, " + f[3] + ")");
            m.falls.add(f);
        }
        for (int i = random.nextInt(run % 4 == 0 ? 13 : 12); i > 0; i--) {
            int[] c = {random.nextInt(6), from + random.nextInt(span), random.nextInt(4), random.nextInt(run % 2 == 0 ? 10 : 3)};
            int cry = m.cries.size();
            x.does("cry(" + c[0] + ", " + c[1] + "); mend(" + cry + ", 12, " + c[2] + "); mend(" + cry + ", 13, " + c[3] + ")");
            m.cries.add(c);
        }
        if (run % 5 != 0) {
            m.law = LAWS[random.nextInt(LAWS.length)];
            x.law(m.law);
        }
    }

    private static void cells(Run x, Model m) {
        for (int xy = 0; xy < 400; xy++) {
            is(x, m.at(xy % 20, xy / 20), "at", xy);
        }
    }

    private static void falls(Run x, Model m) {
        for (int f = 0; f < m.falls.size(); f++) {
            int bits = 0;
            for (int c : m.having(f)) {
                bits |= 1 << c;
            }
            int[] due = {m.at(m.falls.get(f)[0], m.falls.get(f)[1]), m.finder(f), m.having(f).size(), bits, m.howMuch(f)};
            for (int what = 0; what < 5; what++) {
                is(x, due[what], "whose", f, what);
            }
            for (int c = 0; c < m.cries.size(); c++) {
                is(x, m.counts(f, c), "counts", 100 * f + c);
                is(x, m.later(f, c), "later", 100 * f + c);
                is(x, m.louder(f, c), "louder", 100 * f + c);
            }
        }
    }

    private static void people(Run x, Model m) {
        int[][] cleared = m.cleared();
        for (int a = 0; a < 6; a++) {
            is(x, m.owes(a), "owed", -1 - a);
            is(x, m.isOwed(a), "owed", -11 - a);
            for (int b = 0; b < 6; b++) {
                is(x, m.owed(a, b), "owed", 10 * a + b);
                is(x, a == b ? -2000000000 : cleared[a][b], "cleared", 10 * a + b, 0);
            }
        }
        is(x, m.rich(), "cleared", 0, 1);
        is(x, m.isOwed(m.rich()) - m.owes(m.rich()), "cleared", 0, 2);
        int[] who = {m.quarrel(), m.busiest(1), m.busiest(2), m.skeptic(), m.idle()};
        for (int what = 0; what < 5; what++) {
            is(x, who[what], "who", what);
        }
    }

    private static void ifOnly(Random random, Run x, Model m) {
        for (int f = 0; f < m.fields.size(); f++) {
            for (int i = 0; i < 5; i++) {
                int wd = 100 * (1 + random.nextInt(20)) + 1 + random.nextInt(20);
                boolean owned = m.fields.get(f)[4] >= 0;
                is(x, owned ? m.hedge(f, wd) : -2000000000, "hedge", f, wd);
            }
        }
        if (!m.cries.isEmpty()) {
            int cry = random.nextInt(m.cries.size());
            int[] best = m.bestCry(cry);
            is(x, best[0], "bestCry", cry, 0);
            is(x, best[1], "bestCry", cry, 1);
        }
        for (int one = 0; one < 6; one++) {
            int[] sold = m.sellOff(one);
            is(x, sold[0], "sellOff", one, 0);
            is(x, sold[1], "sellOff", one, 1);
        }
        int one = random.nextInt(6);
        int coins = random.nextInt(150);
        int[] bought = m.buy(one, coins);
        is(x, bought[0], "buy", one, coins, 0);
        is(x, bought[1], "buy", one, coins, 1);
    }

    private static void drawn(Random random, Run x, Model m) {
        int seed = random.nextInt();
        int[] drawn = m.drawn(seed, 305);
        is(x, drawn[0], "drawn", seed, 305, 0, 0);
        for (int p = 0; p < 6; p++) {
            is(x, drawn[1 + p], "drawn", seed, 305, 1, p);
        }
    }

    private static void years(Random random, Run x, Model m) {
        int[] year = new int[random.nextInt(m.falls.size() + 1)];
        for (int f = 0; f < year.length; f++) {
            year[f] = random.nextInt(12) == 0 ? random.nextInt(8) - 1 : m.paidAlone(f);
        }
        Run told = new Run(x).row(0, 0, longs(year));
        is(told, m.judge(year), "judge", 0);
        int wl = 100 * random.nextInt(6) + 10 * random.nextInt(4) + random.nextInt(10);
        boolean full = m.cries.size() == 12;
        int[] crying = m.whoseCry(year, wl / 100, wl / 10 % 10, wl % 10);
        is(told, full ? -5 : crying[0], "whoseCry", 0, wl, 0);
        is(told, full ? -5 : crying[1], "whoseCry", 0, wl, 1);
    }

    private static void witnesses(Random random, Run x, Model m) {
        for (int i = 0; i < 20; i++) {
            int[] seen = seen(random, i);
            int[] heard = heard(random);
            Run told = new Run(x).row(1, 0, longs(seen)).row(2, 1, longs(heard));
            int[] sight = m.sight(seen);
            for (int what = 0; what < 4; what++) {
                is(told, sight[what], "sight", 1, what);
            }
            int[] ears = m.ears(heard);
            for (int what = 0; what < 3; what++) {
                is(told, ears[what], "ears", 2, what);
            }
        }
    }

    /** Most of them saw the same cell from somewhere. */
    private static int[] seen(Random random, int kind) {
        int many = random.nextInt(4);
        int[] row = new int[4 * many + (kind == 7 ? 1 + random.nextInt(3) : 0)];
        int toX = random.nextInt(20);
        int toY = random.nextInt(20);
        for (int i = 0; i < 4 * many; i += 4) {
            int dx = random.nextInt(kind == 3 ? 23 : 5) - (kind == 3 ? 11 : 2);
            int dy = random.nextInt(5) - 2;
            int steps = random.nextInt(5);
            row[i] = toX - steps * dx;
            row[i + 1] = toY - steps * dy;
            row[i + 2] = dx;
            row[i + 3] = dy;
        }
        return row;
    }

    private static int[] heard(Random random) {
        int many = random.nextInt(4);
        int[] row = new int[3 * many + (random.nextInt(9) == 0 ? 1 : 0)];
        int atX = random.nextInt(20);
        int atY = random.nextInt(20);
        int cried = random.nextInt(8) - 1;
        for (int i = 0; i < 3 * many; i += 3) {
            row[i] = random.nextInt(20);
            row[i + 1] = random.nextInt(random.nextInt(9) == 0 ? 22 : 20);
            row[i + 2] = cried + Math.abs(row[i] - atX) + Math.abs(row[i + 1] - atY);
        }
        return row;
    }

    private static long[] longs(int[] row) {
        return Arrays.stream(row).asLongStream().toArray();
    }
}
