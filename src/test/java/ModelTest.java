import java.util.Random;

/** Drawn lands, laws and rows: the class against the slow model (promises 8 to 26). */
public final class ModelTest {
    private static final Due DUE = new Due("ModelTest");
    private static final String SIGNS = "0123456789dwklhs|&<=>+-*/%!()?;";
    private static final String[] LAWS = {"20-d+l*s+h", "9*(w=k)-d/7", "d<6?l;d<40&w=k?l/2;0", "1", "h?9-l;l", "(d<10)*(5-w)",
        "3-d%4", "s?7;k+1", "l>4|h", "9999*9999*l-d", "!h*(30-d)/(w-1)"};

    public static void main(String[] args) {
        lawTexts();
        for (int run = 0; run < 60; run++) {
            night(new Random(run), run);
        }
        DUE.end();
    }

    private static void lawTexts() {
        Random random = new Random(44);
        FellInField x = new FellInField();
        x.fall(0, 7);
        x.cry(0, 3);
        Model m = new Model();
        m.falls.add(new int[] {0, 0, 7, 0});
        m.cries.add(new int[] {0, 3, 0, 5});
        for (int i = 0; i < 4000; i++) {
            String text = i % 4 == 0 ? anySigns(random) : line(random);
            if (i % 4 == 3) {
                int at = random.nextInt(text.length());
                text = text.substring(0, at) + SIGNS.charAt(random.nextInt(SIGNS.length())) + text.substring(at + random.nextInt(2));
            }
            text = text.length() > 120 ? text.substring(0, 120) : text;
            int fault = ModelLaw.fault(text);
            DUE.is("law of " + text, Due.tell(x, text), fault < 0 ? 1 : -100 - fault);
            m.law = fault < 0 ? text : m.law;
            DUE.is("counts by " + m.law, x.counts(0), m.counts(0, 0));
        }
    }

    private static String anySigns(Random random) {
        StringBuilder b = new StringBuilder();
        int length = random.nextInt(12);
        for (int i = 0; i < length; i++) {
            b.append(SIGNS.charAt(random.nextInt(SIGNS.length())));
        }
        return b.toString();
    }

    private static String line(Random random) {
        String lines = "";
        for (int i = random.nextInt(3); i >= 0; i--) {
            lines += expression(random, 4) + (random.nextBoolean() ? "?" + expression(random, 3) : "") + (i > 0 ? ";" : "");
        }
        return lines;
    }

    private static String expression(Random random, int depth) {
        int kind = depth == 0 ? random.nextInt(2) : random.nextInt(9);
        if (kind == 0) {
            return "" + random.nextInt(random.nextBoolean() ? 4 : 10000);
        }
        if (kind == 1) {
            return "" + "dwklhs".charAt(random.nextInt(6));
        }
        String first = expression(random, depth - 1);
        if (kind == 2) {
            return "!" + first;
        }
        if (kind == 3) {
            return "-" + first;
        }
        if (kind == 4) {
            return "(" + first + ")";
        }
        return first + "|&<=>+-*/%".charAt(random.nextInt(10)) + expression(random, depth - 1);
    }

    private static void night(Random random, int run) {
        FellInField x = new FellInField();
        Model m = new Model();
        build(random, run, x, m);
        String run0 = "run " + run + ": ";
        asIs(run0, x, m);
        ifOnly(run0, random, x, m);
        rows(run0, random, x, m);
    }

    private static void build(Random random, int run, FellInField x, Model m) {
        for (int i = random.nextInt(9); i > 0; i--) {
            int xy = random.nextInt(400);
            int wd = 100 * (1 + random.nextInt(20)) + 1 + random.nextInt(20);
            int owner = random.nextInt(7) - 1;
            int price = random.nextInt(30);
            int field = x.field(xy, wd);
            x.mend(field, 4, owner);
            x.mend(field, 5, price);
            m.fields.add(new int[] {xy % 20, xy / 20, wd / 100, wd % 100, owner, price});
        }
        int span = run % 3 == 0 ? 1000 : run % 3 == 1 ? 30 : 4;
        int from = random.nextInt(1001 - span);
        for (int i = random.nextInt(11); i > 0; i--) {
            int[] f = {random.nextInt(20), random.nextInt(20), from + random.nextInt(span), random.nextInt(4)};
            x.mend(x.fall(20 * f[1] + f[0], f[2]), 9, f[3]);
            m.falls.add(f);
        }
        for (int i = random.nextInt(run % 4 == 0 ? 13 : 12); i > 0; i--) {
            int[] c = {random.nextInt(6), from + random.nextInt(span), random.nextInt(4), random.nextInt(run % 2 == 0 ? 10 : 3)};
            int cry = x.cry(c[0], c[1]);
            x.mend(cry, 12, c[2]);
            x.mend(cry, 13, c[3]);
            m.cries.add(c);
        }
        if (run % 5 != 0) {
            m.law = LAWS[random.nextInt(LAWS.length)];
            Due.tell(x, m.law);
        }
    }

    private static void asIs(String run, FellInField x, Model m) {
        for (int xy = 0; xy < 400; xy++) {
            DUE.is(run + "at", x.at(xy), m.at(xy % 20, xy / 20));
        }
        for (int f = 0; f < m.falls.size(); f++) {
            int bits = 0;
            for (int c : m.having(f)) {
                bits |= 1 << c;
            }
            int[] due = {m.at(m.falls.get(f)[0], m.falls.get(f)[1]), m.finder(f), m.having(f).size(), bits, m.howMuch(f)};
            for (int what = 0; what < 5; what++) {
                DUE.is(run + "whose", x.whose(f, what), due[what]);
            }
            for (int c = 0; c < m.cries.size(); c++) {
                DUE.is(run + "counts", x.counts(100 * f + c), m.counts(f, c));
                DUE.is(run + "later", x.later(100 * f + c), m.later(f, c));
                DUE.is(run + "louder", x.louder(100 * f + c), m.louder(f, c));
            }
        }
        int[][] cleared = m.cleared();
        for (int a = 0; a < 6; a++) {
            DUE.is(run + "owes", x.owed(-1 - a), m.owes(a));
            DUE.is(run + "is owed", x.owed(-11 - a), m.isOwed(a));
            for (int b = 0; b < 6; b++) {
                DUE.is(run + "owed", x.owed(10 * a + b), m.owed(a, b));
                if (a != b) {
                    DUE.is(run + "cleared", x.cleared(10 * a + b, 0), cleared[a][b]);
                }
            }
        }
        DUE.is(run + "rich", x.cleared(0, 1), m.rich());
        DUE.is(run + "rich", x.cleared(0, 2), m.isOwed(m.rich()) - m.owes(m.rich()));
        int[] who = {m.quarrel(), m.busiest(1), m.busiest(2), m.skeptic(), m.idle()};
        for (int what = 0; what < 5; what++) {
            DUE.is(run + "who(" + what + ")", x.who(what), who[what]);
        }
    }

    private static void ifOnly(String run, Random random, FellInField x, Model m) {
        for (int f = 0; f < m.fields.size(); f++) {
            for (int i = 0; i < 5; i++) {
                int wd = 100 * (1 + random.nextInt(20)) + 1 + random.nextInt(20);
                boolean owned = m.fields.get(f)[4] >= 0;
                DUE.is(run + "hedge", x.hedge(f, wd), owned ? m.hedge(f, wd) : -2000000000);
            }
        }
        if (!m.cries.isEmpty()) {
            int cry = random.nextInt(m.cries.size());
            int[] best = m.bestCry(cry);
            DUE.is(run + "bestCry", x.bestCry(cry, 0), best[0]);
            DUE.is(run + "bestCry", x.bestCry(cry, 1), best[1]);
        }
        for (int one = 0; one < 6; one++) {
            int[] sold = m.sellOff(one);
            DUE.is(run + "sellOff", x.sellOff(one, 0), sold[0]);
            DUE.is(run + "sellOff", x.sellOff(one, 1), sold[1]);
        }
        int one = random.nextInt(6);
        int coins = random.nextInt(150);
        int[] bought = m.buy(one, coins);
        DUE.is(run + "buy", x.buy(one, coins, 0), bought[0]);
        DUE.is(run + "buy", x.buy(one, coins, 1), bought[1]);
        int seed = random.nextInt();
        int[] drawn = m.drawn(seed, 305);
        DUE.is(run + "drawn", x.drawn(seed, 305, 0, 0), drawn[0]);
        for (int p = 0; p < 6; p++) {
            DUE.is(run + "drawn", x.drawn(seed, 305, 1, p), drawn[1 + p]);
        }
    }

    private static void rows(String run, Random random, FellInField x, Model m) {
        int[] year = new int[random.nextInt(m.falls.size() + 1)];
        for (int f = 0; f < year.length; f++) {
            year[f] = random.nextInt(12) == 0 ? random.nextInt(8) - 1 : m.paidAlone(f);
        }
        fill(x, 0, 0, year);
        DUE.is(run + "judge", x.judge(0), m.judge(year));
        int wl = 100 * random.nextInt(6) + 10 * random.nextInt(4) + random.nextInt(10);
        boolean full = m.cries.size() == 12;
        int[] crying = m.whoseCry(year, wl / 100, wl / 10 % 10, wl % 10);
        DUE.is(run + "whoseCry", x.whoseCry(0, wl, 0), full ? -5 : crying[0]);
        DUE.is(run + "whoseCry", x.whoseCry(0, wl, 1), full ? -5 : crying[1]);
        for (int i = 0; i < 20; i++) {
            int[] seen = seen(random, i);
            fill(x, 1, 0, seen);
            int[] sight = m.sight(seen);
            for (int what = 0; what < 4; what++) {
                DUE.is(run + "sight " + what, x.sight(1, what), sight[what]);
            }
            int[] heard = heard(random);
            fill(x, 2, 1, heard);
            int[] ears = m.ears(heard);
            for (int what = 0; what < 3; what++) {
                DUE.is(run + "ears " + what, x.ears(2, what), ears[what]);
            }
        }
    }

    /** Most of them saw the same cell from somewhere. */
    private static int[] seen(Random random, int kind) {
        int many = random.nextInt(4);
        int[] row = new int[4 * many + (kind == 7 ? 1 + random.nextInt(3) : 0)];
        int toX = random.nextInt(20);
        int toY = random.nextInt(20);
        for (int i = 0; i < 4 * many; i += 4) {
            int dx = random.nextInt(kind == 3 ? 23 : 5) - (kind == 3 ? 11 : 2);
            int dy = random.nextInt(5) - 2;
            int steps = random.nextInt(5);
            row[i] = toX - steps * dx;
            row[i + 1] = toY - steps * dy;
            row[i + 2] = dx;
            row[i + 3] = dy;
        }
        return row;
    }

    private static int[] heard(Random random) {
        int many = random.nextInt(4);
        int[] row = new int[3 * many + (random.nextInt(9) == 0 ? 1 : 0)];
        int atX = random.nextInt(20);
        int atY = random.nextInt(20);
        int cried = random.nextInt(8) - 1;
        for (int i = 0; i < 3 * many; i += 3) {
            row[i] = random.nextInt(20);
            row[i + 1] = random.nextInt(random.nextInt(9) == 0 ? 22 : 20);
            row[i + 2] = cried + Math.abs(row[i] - atX) + Math.abs(row[i + 1] - atY);
        }
        return row;
    }

    private static void fill(FellInField x, int shelf, int sort, int[] row) {
        x.row(shelf, sort, row.length);
        for (int i = 0; i < row.length; i++) {
            x.put(shelf, i, row[i]);
        }
    }
}
