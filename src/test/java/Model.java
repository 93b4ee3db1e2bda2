import java.util.ArrayList;
import java.util.List;
import java.util.Map;

/**
 * A slow model of the document's words, written apart from the class: every "what if" is done to a
 * copy of the model and asked there, and a law is worked out from its text each time.
 */
final class Model {
    static final int NOT = -2;

    /** Rows as of mend(): six numbers of a field, four of a fall, four of a cry. */
    final List<int[]> fields = new ArrayList<>();
    final List<int[]> falls = new ArrayList<>();
    final List<int[]> cries = new ArrayList<>();
    String law;

    Model copy() {
        Model m = new Model();
        fields.forEach(f -> m.fields.add(f.clone()));
        falls.forEach(f -> m.falls.add(f.clone()));
        cries.forEach(c -> m.cries.add(c.clone()));
        m.law = law;
        return m;
    }

    int[] thing(int number, int what) {
        return what < 6 ? fields.get(number) : what < 10 ? falls.get(number) : cries.get(number);
    }

    static int place(int what) {
        return what < 6 ? what : what < 10 ? what - 6 : what - 10;
    }

    int at(int x, int y) {
        for (int i = 0; i < fields.size(); i++) {
            int[] f = fields.get(i);
            if (x >= f[0] && x < f[0] + f[2] && y >= f[1] && y < f[1] + f[3]) {
                return i;
            }
        }
        return NOT;
    }

    int finder(int fall) {
        int field = at(falls.get(fall)[0], falls.get(fall)[1]);
        return field == NOT || fields.get(field)[4] == -1 ? NOT : fields.get(field)[4];
    }

    int counts(int fall, int cry) {
        int[] f = falls.get(fall);
        int[] c = cries.get(cry);
        int d = Math.abs(f[2] - c[1]);
        int h = finder(fall) == c[0] ? 1 : 0;
        int s = c[1] < f[2] ? 1 : 0;
        if (law == null) {
            return h == 1 ? 0 : 10 + c[3] - d + (f[3] == c[2] ? 3 : 0);
        }
        return ModelLaw.counts(law, Map.of('d', d, 'w', f[3], 'k', c[2], 'l', c[3], 'h', h, 's', s));
    }

    List<Integer> having(int fall) {
        List<Integer> have = new ArrayList<>();
        int most = howMuch(fall);
        for (int c = 0; c < cries.size(); c++) {
            if (most > 0 && counts(fall, c) == most) {
                have.add(c);
            }
        }
        return have;
    }

    int howMuch(int fall) {
        int most = 0;
        for (int c = 0; c < cries.size(); c++) {
            most = Math.max(most, counts(fall, c));
        }
        return most;
    }

    /** What a person is owed by a fall's finder. */
    int paid(int fall, int to) {
        int finder = finder(fall);
        List<Integer> have = having(fall);
        if (finder == NOT || finder == to) {
            return 0;
        }
        int sum = 0;
        for (int c : have) {
            sum += cries.get(c)[0] == to ? 12 / have.size() : 0;
        }
        return sum;
    }

    int owed(int a, int b) {
        int sum = 0;
        for (int f = 0; f < falls.size(); f++) {
            sum += finder(f) == a ? paid(f, b) : 0;
        }
        return sum;
    }

    int owes(int a) {
        int sum = 0;
        for (int b = 0; b < 6; b++) {
            sum += owed(a, b);
        }
        return sum;
    }

    int isOwed(int b) {
        int sum = 0;
        for (int f = 0; f < falls.size(); f++) {
            sum += paid(f, b);
        }
        return sum;
    }

    int quarrel() {
        for (int i = 0; i < cries.size(); i++) {
            for (int j = i + 1; j < cries.size(); j++) {
                for (int f = 0; f < falls.size(); f++) {
                    if (cries.get(i)[0] != cries.get(j)[0] && having(f).contains(i) && having(f).contains(j)) {
                        return 100 * i + j;
                    }
                }
            }
        }
        return NOT;
    }

    int fallsOf(int cry) {
        int n = 0;
        for (int f = 0; f < falls.size(); f++) {
            n += having(f).contains(cry) ? 1 : 0;
        }
        return n;
    }

    int busiest(int what) {
        int best = NOT;
        int most = 0;
        for (int c = cries.size() - 1; c >= 0; c--) {
            int n = fallsOf(c);
            if (n > 0 && n >= most) {
                best = c;
                most = n;
            }
        }
        return what == 1 ? best : most;
    }

    int skeptic() {
        for (int p = 0; p < 6; p++) {
            int one = p;
            boolean owns = fields.stream().anyMatch(f -> f[4] == one);
            boolean cried = cries.stream().anyMatch(c -> c[0] == one);
            if (owns && !cried && owes(p) > 0) {
                return p;
            }
        }
        return NOT;
    }

    int idle() {
        int bits = 0;
        for (int c = 0; c < cries.size(); c++) {
            bits |= fallsOf(c) == 0 ? 1 << c : 0;
        }
        return bits;
    }

    int hedge(int field, int wd) {
        Model m = copy();
        m.fields.get(field)[2] = wd / 100;
        m.fields.get(field)[3] = wd % 100;
        int owner = fields.get(field)[4];
        return m.owes(owner) - owes(owner);
    }

    int later(int fall, int cry) {
        Model m = copy();
        if (!having(fall).contains(cry)) {
            return NOT;
        }
        int more = 0;
        while (more < 99 && m.cries.get(cry)[1] < 999) {
            m.cries.get(cry)[1]++;
            if (!m.having(fall).contains(cry)) {
                break;
            }
            more++;
        }
        return more;
    }

    int louder(int fall, int cry) {
        Model m = copy();
        for (int loud = 0; loud <= 9; loud++) {
            m.cries.get(cry)[3] = loud;
            if (m.having(fall).contains(cry)) {
                return loud;
            }
        }
        return NOT;
    }

    int[] bestCry(int cry) {
        Model m = copy();
        int[] best = {0, -1};
        for (int minute = 0; minute < 1000; minute++) {
            m.cries.get(cry)[1] = minute;
            int worth = m.isOwed(cries.get(cry)[0]);
            if (worth > best[1]) {
                best = new int[] {minute, worth};
            }
        }
        return best;
    }

    int[] buy(int one, int coins) {
        int[] best = null;
        int bestPrice = 0;
        for (int bits = 0; bits < 1 << fields.size(); bits++) {
            Model m = copy();
            int price = 0;
            boolean may = true;
            for (int f = 0; f < fields.size(); f++) {
                if ((bits >> f & 1) == 1) {
                    may &= fields.get(f)[4] != one;
                    price += fields.get(f)[5];
                    m.fields.get(f)[4] = one;
                }
            }
            int worth = m.isOwed(one) - m.owes(one);
            if (may && price <= coins && (best == null || worth > best[0] || worth == best[0] && price < bestPrice)) {
                best = new int[] {worth, bits};
                bestPrice = price;
            }
        }
        return best;
    }

    int[] sellOff(int one) {
        int[] best = {NOT, NOT};
        for (int bits = 0; bits < 1 << fields.size(); bits++) {
            Model m = copy();
            boolean may = true;
            for (int f = 0; f < fields.size(); f++) {
                if ((bits >> f & 1) == 1) {
                    may &= fields.get(f)[4] == one;
                    m.fields.get(f)[4] = -1;
                }
            }
            if (may && m.owes(one) == 0 && (best[0] == NOT || Integer.bitCount(bits) < best[0])) {
                best = new int[] {Integer.bitCount(bits), bits};
            }
        }
        return best;
    }

    int[][] cleared() {
        int[][] debts = new int[6][6];
        for (int a = 0; a < 6; a++) {
            for (int b = 0; b < 6; b++) {
                debts[a][b] = owed(a, b);
            }
        }
        while (lessen(debts)) {
            continue;
        }
        return debts;
    }

    private static boolean lessen(int[][] debts) {
        for (int abc = 0; abc < 216; abc++) {
            int a = abc / 36;
            int b = abc / 6 % 6;
            int c = abc % 6;
            int least = Math.min(debts[a][b], Math.min(debts[b][c], debts[c][a]));
            if (a != b && b != c && a != c && least > 0) {
                debts[a][b] -= least;
                debts[b][c] -= least;
                debts[c][a] -= least;
                return true;
            }
        }
        return false;
    }

    int rich() {
        int best = 0;
        for (int p = 5; p >= 0; p--) {
            best = isOwed(p) - owes(p) >= isOwed(best) - owes(best) ? p : best;
        }
        return best;
    }

    int paidAlone(int fall) {
        int alone = -1;
        for (int p = 0; p < 6; p++) {
            if (paid(fall, p) > 0) {
                if (alone >= 0) {
                    return -1;
                }
                alone = p;
            }
        }
        return alone;
    }

    int judge(int[] row) {
        for (int f = 0; f < row.length; f++) {
            if (f >= falls.size() || paidAlone(f) != row[f]) {
                return f;
            }
        }
        return NOT;
    }

    int[] whoseCry(int[] row, int who, int wish, int loud) {
        int[] answer = {0, NOT};
        for (int minute = 999; minute >= 0; minute--) {
            Model m = copy();
            m.cries.add(new int[] {who, minute, wish, loud});
            if (m.judge(row) == NOT) {
                answer = new int[] {answer[0] + 1, minute};
            }
        }
        return answer;
    }

    /** How many had a finder and a cry, and behind it what each one owes. */
    int[] drawn(int seed, int nm) {
        Model m = copy();
        int[] answer = new int[7];
        int z = seed;
        for (int i = 0; i < nm / 100 * (nm % 100); i++) {
            z = z * 1103515245 + 12345;
            m.falls.clear();
            m.falls.add(new int[] {(z >>> 8) % 20, (z >>> 14) % 20, (z >>> 19) % 60, (z >>> 27) % 4});
            answer[0] += m.finder(0) != NOT && !m.having(0).isEmpty() ? 1 : 0;
            for (int p = 0; p < 6; p++) {
                answer[1 + p] += m.owes(p);
            }
        }
        return answer;
    }

    /** How many, the first, the fields, whom to ask. */
    int[] sight(int[] row) {
        boolean right = row.length % 4 == 0;
        for (int i = 0; right && i < row.length; i += 4) {
            right = row[i] >= 0 && row[i] < 20 && row[i + 1] >= 0 && row[i + 1] < 20 && Math.abs(row[i + 2]) <= 9
                    && Math.abs(row[i + 3]) <= 9 && (row[i + 2] != 0 || row[i + 3] != 0);
        }
        List<Integer> may = new ArrayList<>();
        for (int xy = 0; right && xy < 400; xy++) {
            boolean all = true;
            for (int i = 0; i < row.length; i += 4) {
                boolean on = false;
                for (int k = 0; k < 20; k++) {
                    on |= row[i] + k * row[i + 2] == xy % 20 && row[i + 1] + k * row[i + 3] == xy / 20;
                }
                all &= on;
            }
            if (all) {
                may.add(xy);
            }
        }
        if (may.isEmpty()) {
            return new int[] {0, NOT, 0, NOT};
        }
        int bits = 0;
        for (int xy : may) {
            int field = at(xy % 20, xy / 20);
            bits |= field == NOT ? 0 : 1 << field;
        }
        int ask = 0;
        for (int x = 1; x < 20; x++) {
            ask = off(may, x) < off(may, ask) ? x : ask;
        }
        return new int[] {may.size(), may.get(0), bits, ask};
    }

    private static double off(List<Integer> may, int x) {
        return Math.abs(may.stream().filter(xy -> xy % 20 == x).count() - may.size() / 2.0);
    }

    /** How many, the first, the minute. */
    int[] ears(int[] row) {
        boolean right = row.length > 0 && row.length % 3 == 0;
        for (int i = 0; right && i < row.length; i += 3) {
            right = row[i] >= 0 && row[i] < 20 && row[i + 1] >= 0 && row[i + 1] < 20;
        }
        int[] answer = {0, NOT, NOT};
        for (int xy = 399; right && xy >= 0; xy--) {
            int cried = row[2] - apart(row, 0, xy);
            boolean all = cried >= 0;
            for (int i = 3; i < row.length; i += 3) {
                all &= cried + apart(row, i, xy) == row[i + 2];
            }
            if (all) {
                answer = new int[] {answer[0] + 1, xy, cried};
            }
        }
        return answer;
    }

    private static int apart(int[] row, int i, int xy) {
        return Math.abs(row[i] - xy % 20) + Math.abs(row[i + 1] - xy / 20);
    }
}
