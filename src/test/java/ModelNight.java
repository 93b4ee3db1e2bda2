import java.lang.reflect.Array;
import java.util.ArrayList;
import java.util.HashSet;
import java.util.List;
import java.util.Set;

/**
 * The whole class once more, slow and plain: what is only thought is asked of Model, what is done is kept here, rows are
 * Java's own arrays, and bodies objects of Java's own classes. Its methods bear the names of the document's face.
 */
final class ModelNight {
    private static final int BAD = -1;
    private static final int NOT = -2;
    private static final int FULL = -3;
    private static final int STATE = -5;
    private static final int VOID = -2000000000;
    private static final int NOTHING = -11;
    private static final int OTHER_KIND = -12;
    private static final int NO_PLACE = -13;
    private static final int BELOW_0 = -14;
    private static final int[] LEAST = {0, 0, 1, 1, -1, 0, 0, 0, 0, 0, 0, 0, 0, 0};
    private static final int[] MOST = {19, 19, 20, 20, 5, 99, 19, 19, 999, 3, 5, 999, 3, 9};

    /** What an image keeps, but for the owners. */
    private static final class Book {
        final Set<Integer> found = new HashSet<>();
        final int[][] owed = new int[6][6];
        int payments;
        int paid;
        int gifts;

        Book copy() {
            Book b = new Book();
            b.found.addAll(found);
            for (int a = 0; a < 6; a++) {
                b.owed[a] = owed[a].clone();
            }
            b.payments = payments;
            b.paid = paid;
            b.gifts = gifts;
            return b;
        }
    }

    final Model land = new Model();
    private String tape = "";
    private Book book = new Book();
    private Book imageBook;
    private final List<Integer> imageOwners = new ArrayList<>();
    /** Number, what, what it was, what it became. */
    private final List<int[]> changes = new ArrayList<>();
    private final List<int[]> undone = new ArrayList<>();
    private final List<BodyTest.Star> bodies = new ArrayList<>();
    private final List<Integer> kinds = new ArrayList<>();
    private List<Integer> ran = new ArrayList<>();
    /** Null, an Integer (a body's number) or an array. */
    private final Object[] shelves = new Object[6];

    private static boolean in(int v, int least, int most) {
        return least <= v && v <= most;
    }

    private static boolean isPair(int ab) {
        return in(ab, 0, 59) && in(ab / 10, 0, 5) && in(ab % 10, 0, 5);
    }

    private static boolean isSize(int wd) {
        return in(wd, 101, 2020) && in(wd / 100, 1, 20) && in(wd % 100, 1, 20);
    }

    // ---- fields, falls, cries

    int field(int xy, int wd) {
        if (!in(xy, 0, 399) || !isSize(wd)) {
            return BAD;
        }
        if (land.fields.size() == 8) {
            return FULL;
        }
        land.fields.add(new int[] {xy % 20, xy / 20, wd / 100, wd % 100, -1, 10});
        return land.fields.size() - 1;
    }

    int fall(int xy, int minute) {
        if (!in(xy, 0, 399) || !in(minute, 0, 999)) {
            return BAD;
        }
        if (land.falls.size() == 10) {
            return FULL;
        }
        land.falls.add(new int[] {xy % 20, xy / 20, minute, 0});
        return land.falls.size() - 1;
    }

    int falls(int shelf, int i, int n) {
        if (!in(shelf, 0, 5) || !in(n, 1, 10)) {
            return BAD;
        }
        if (shelves[shelf] == null) {
            return 0;
        }
        if (!(shelves[shelf] instanceof short[] row)) {
            return OTHER_KIND;
        }
        int came = 0;
        while (came < n && i >= 0 && i + 3L * came + 2 < row.length) {
            int at = i + 3 * came;
            if (!in(row[at], 0, 19) || !in(row[at + 1], 0, 19) || fall(20 * row[at + 1] + row[at], row[at + 2]) < 0) {
                break;
            }
            came++;
        }
        return came;
    }

    int cry(int who, int minute) {
        if (!in(who, 0, 5) || !in(minute, 0, 999)) {
            return BAD;
        }
        if (land.cries.size() == 12) {
            return FULL;
        }
        land.cries.add(new int[] {who, minute, 0, 5});
        return land.cries.size() - 1;
    }

    private boolean has(int number, int what) {
        int many = what < 6 ? land.fields.size() : what < 10 ? land.falls.size() : land.cries.size();
        return in(what, 0, 13) && in(number, 0, many - 1);
    }

    int mend(int number, int what, int v) {
        if (!has(number, what) || !in(v, LEAST[what], MOST[what])) {
            return VOID;
        }
        int was = of(number, what);
        if (v != was) {
            land.thing(number, what)[Model.place(what)] = v;
            changes.add(new int[] {number, what, was, v});
            undone.clear();
        }
        if (changes.size() > 40) {
            changes.remove(0);
        }
        return was;
    }

    int of(int number, int what) {
        if (what == 14) {
            return !in(number, 0, land.falls.size() - 1) ? VOID : book.found.contains(number) ? 1 : 0;
        }
        return has(number, what) ? land.thing(number, what)[Model.place(what)] : VOID;
    }

    int feed(int letter) {
        if (!in(letter, 0, 255)) {
            return BAD;
        }
        if (tape.length() == 120) {
            return FULL;
        }
        tape += (char) letter;
        return tape.length();
    }

    int law() {
        int fault = ModelLaw.fault(tape);
        if (fault < 0) {
            land.law = tape;
        }
        tape = "";
        return fault < 0 ? 1 : -100 - fault;
    }

    private boolean isFallAndCry(int fc) {
        return fc >= 0 && fc / 100 < land.falls.size() && fc % 100 < land.cries.size();
    }

    int counts(int fc) {
        return isFallAndCry(fc) ? land.counts(fc / 100, fc % 100) : VOID;
    }

    // ---- in thought

    int at(int xy) {
        return in(xy, 0, 399) ? land.at(xy % 20, xy / 20) : BAD;
    }

    int whose(int fall, int what) {
        if (!in(fall, 0, land.falls.size() - 1)) {
            return BAD;
        }
        int[] f = land.falls.get(fall);
        return switch (what) {
            case 0 -> land.at(f[0], f[1]);
            case 1 -> land.finder(fall);
            case 2 -> land.having(fall).size();
            case 3 -> land.having(fall).stream().mapToInt(c -> 1 << c).sum();
            case 4 -> land.howMuch(fall);
            default -> BAD;
        };
    }

    int owed(int ab) {
        if (in(ab, -6, -1)) {
            return land.owes(-1 - ab);
        }
        if (in(ab, -16, -11)) {
            return land.isOwed(-11 - ab);
        }
        return isPair(ab) ? land.owed(ab / 10, ab % 10) : VOID;
    }

    int who(int what) {
        return switch (what) {
            case 0 -> land.quarrel();
            case 1, 2 -> land.busiest(what);
            case 3 -> land.skeptic();
            case 4 -> land.idle();
            default -> BAD;
        };
    }

    int hedge(int field, int wd) {
        boolean owned = in(field, 0, land.fields.size() - 1) && land.fields.get(field)[4] >= 0;
        return owned && isSize(wd) ? land.hedge(field, wd) : VOID;
    }

    int later(int fc) {
        return isFallAndCry(fc) ? land.later(fc / 100, fc % 100) : BAD;
    }

    int louder(int fc) {
        return isFallAndCry(fc) ? land.louder(fc / 100, fc % 100) : BAD;
    }

    int bestCry(int cry, int what) {
        return in(cry, 0, land.cries.size() - 1) && in(what, 0, 1) ? land.bestCry(cry)[what] : BAD;
    }

    int buy(int one, int coins, int what) {
        return in(one, 0, 5) && in(coins, 0, 999) && in(what, 0, 1) ? land.buy(one, coins)[what] : VOID;
    }

    int sellOff(int one, int what) {
        return in(one, 0, 5) && in(what, 0, 1) ? land.sellOff(one)[what] : BAD;
    }

    int cleared(int ab, int what) {
        if (what == 0) {
            return isPair(ab) && ab / 10 != ab % 10 ? land.cleared()[ab / 10][ab % 10] : VOID;
        }
        if (ab != 0 || !in(what, 1, 2)) {
            return VOID;
        }
        int rich = land.rich();
        return what == 1 ? rich : land.isOwed(rich) - land.owes(rich);
    }

    // ---- sight, ears, years

    /** 0 if the shelf holds an array of that class. */
    private int refusal(int shelf, Class<?> wanted) {
        if (!in(shelf, 0, 5)) {
            return BAD;
        }
        return shelves[shelf] == null ? NOTHING : shelves[shelf].getClass() == wanted ? 0 : OTHER_KIND;
    }

    private int[] elements(int shelf) {
        int[] row = new int[Array.getLength(shelves[shelf])];
        for (int i = 0; i < row.length; i++) {
            row[i] = Array.getInt(shelves[shelf], i);
        }
        return row;
    }

    int sight(int shelf, int what) {
        int refusal = in(what, 0, 3) ? refusal(shelf, byte[].class) : BAD;
        return refusal != 0 ? refusal : land.sight(elements(shelf))[what];
    }

    int ears(int shelf, int what) {
        int refusal = in(what, 0, 2) ? refusal(shelf, short[].class) : BAD;
        return refusal != 0 ? refusal : land.ears(elements(shelf))[what];
    }

    int judge(int shelf) {
        int refusal = refusal(shelf, byte[].class);
        return refusal != 0 ? refusal : land.judge(elements(shelf));
    }

    int whoseCry(int shelf, int wl, int what) {
        boolean told = in(wl, 0, 599) && in(wl / 10 % 10, 0, 3) && in(what, 0, 1);
        int refusal = told ? refusal(shelf, byte[].class) : BAD;
        if (refusal != 0) {
            return refusal;
        }
        return land.cries.size() == 12 ? STATE : land.whoseCry(elements(shelf), wl / 100, wl / 10 % 10, wl % 10)[what];
    }

    int drawn(int seed, int nm, int what, int one) {
        boolean nights = in(nm, 101, 3020) && in(nm % 100, 1, 20);
        if (!nights || !in(what, 0, 1) || what == 1 && !in(one, 0, 5)) {
            return BAD;
        }
        return land.drawn(seed, nm)[what == 0 ? 0 : 1 + one];
    }

    // ---- in deed

    int find(int fall) {
        if (!in(fall, 0, land.falls.size() - 1)) {
            return BAD;
        }
        if (!book.found.add(fall)) {
            return STATE;
        }
        int sum = 0;
        for (int to = 0; to < 6 && land.finder(fall) != NOT; to++) {
            int paid = land.paid(fall, to);
            book.owed[land.finder(fall)][to] += paid;
            sum += paid;
        }
        return sum;
    }

    int pay(int ab, int n) {
        if (!isPair(ab) || ab / 10 == ab % 10 || !in(n, 1, 999)) {
            return BAD;
        }
        if (book.owed[ab / 10][ab % 10] < n) {
            return STATE;
        }
        book.payments++;
        book.paid += n;
        book.owed[ab / 10][ab % 10] -= n;
        return book.owed[ab / 10][ab % 10];
    }

    int give(int field, int one) {
        if (!in(field, 0, land.fields.size() - 1) || !in(one, -1, 5)) {
            return VOID;
        }
        int was = land.fields.get(field)[4];
        land.fields.get(field)[4] = one;
        book.gifts++;
        return was;
    }

    int led(int what) {
        return switch (what) {
            case 0 -> book.found.size();
            case 1 -> book.payments;
            case 2 -> book.paid;
            case 3 -> book.gifts;
            default -> in(what, 100, 159) && isPair(what - 100) ? book.owed[what / 10 % 10][what % 10] : BAD;
        };
    }

    int image() {
        imageBook = book.copy();
        imageOwners.clear();
        land.fields.forEach(f -> imageOwners.add(f[4]));
        return book.found.size();
    }

    int back() {
        if (imageBook == null) {
            return STATE;
        }
        book = imageBook.copy();
        for (int f = 0; f < imageOwners.size(); f++) {
            land.fields.get(f)[4] = imageOwners.get(f);
        }
        return book.found.size();
    }

    int undo() {
        if (changes.isEmpty()) {
            return STATE;
        }
        int[] change = changes.remove(changes.size() - 1);
        land.thing(change[0], change[1])[Model.place(change[1])] = change[2];
        undone.add(change);
        return changes.size();
    }

    int redo() {
        if (undone.isEmpty()) {
            return STATE;
        }
        int[] change = undone.remove(undone.size() - 1);
        land.thing(change[0], change[1])[Model.place(change[1])] = change[3];
        changes.add(change);
        return undone.size();
    }

    // ---- acts, shelves

    int body(int kind) {
        if (!in(kind, 0, 7)) {
            return BAD;
        }
        if (bodies.size() == 50) {
            return FULL;
        }
        bodies.add(BodyTest.made(kind, bodies.size()));
        kinds.add(kind);
        return bodies.size() - 1;
    }

    int act(int body, int act, int x) {
        BodyTest.RAN.clear();
        int answer = in(body, 0, bodies.size() - 1) && in(act, 0, 3) ? BodyTest.acted(bodies.get(body), act, x) : 0;
        ran = new ArrayList<>(BodyTest.RAN);
        return answer;
    }

    int trace(int i) {
        return in(i, 0, Math.min(24, ran.size()) - 1) ? ran.get(i) : BAD;
    }

    int keep(int shelf, int body) {
        if (!in(shelf, 0, 5) || !in(body, -1, bodies.size() - 1)) {
            return BAD;
        }
        shelves[shelf] = body == -1 ? null : (Object) body;
        return 1;
    }

    int row(int shelf, int sort, int n) {
        if (!in(shelf, 0, 5) || !in(sort, 0, 4) || n > 60) {
            return BAD;
        }
        if (n < 0) {
            return BELOW_0;
        }
        shelves[shelf] = switch (sort) {
            case 0 -> new byte[n];
            case 1 -> new short[n];
            case 2 -> new int[n];
            case 3 -> new long[n];
            default -> new boolean[n];
        };
        return 1;
    }

    private int refusalOfPlace(int shelf, int i) {
        if (!in(shelf, 0, 5)) {
            return BAD;
        }
        if (shelves[shelf] == null) {
            return NOTHING;
        }
        if (shelves[shelf] instanceof Integer) {
            return OTHER_KIND;
        }
        return in(i, 0, Array.getLength(shelves[shelf]) - 1) ? 0 : NO_PLACE;
    }

    int put(int shelf, int i, long v) {
        int refusal = refusalOfPlace(shelf, i);
        if (refusal != 0) {
            return refusal;
        }
        Object held = shelves[shelf];
        if (held instanceof byte[] row) {
            row[i] = (byte) v;
        } else if (held instanceof short[] row) {
            row[i] = (short) v;
        } else if (held instanceof int[] row) {
            row[i] = (int) v;
        } else if (held instanceof long[] row) {
            row[i] = v;
        } else if (held instanceof boolean[] row) {
            row[i] = v != 0;
        }
        return 1;
    }

    long element(int shelf, int i) {
        if (refusalOfPlace(shelf, i) != 0) {
            return Long.MIN_VALUE;
        }
        Object held = shelves[shelf];
        return held instanceof boolean[] row ? row[i] ? 1 : 0 : Array.getLong(held, i);
    }

    /** The host itself says what it refuses, in the order in which it looks. */
    int shift(int shelf, int i, int other, int j, int n) {
        if (!in(shelf, 0, 5) || !in(other, 0, 5)) {
            return BAD;
        }
        try {
            System.arraycopy(shelves[shelf], i, shelves[other], j, n);
            return n;
        } catch (NullPointerException e) {
            return NOTHING;
        } catch (ArrayStoreException e) {
            return OTHER_KIND;
        } catch (IndexOutOfBoundsException e) {
            return NO_PLACE;
        }
    }

    int taken(int shelf, int k) {
        if (!in(shelf, 0, 5) || !in(k, 0, 7)) {
            return BAD;
        }
        if (shelves[shelf] == null) {
            return NOTHING;
        }
        boolean is = shelves[shelf] instanceof Integer body && BodyTest.made(k, 0).getClass().isInstance(bodies.get(body));
        return is ? kinds.get((Integer) shelves[shelf]) : OTHER_KIND;
    }

    int count(int what) {
        int[] many = {land.fields.size(), land.falls.size(), land.cries.size(), tape.length(), changes.size(), bodies.size(), ran.size()};
        return in(what, 0, 6) ? many[what] : BAD;
    }
}
