import java.util.Arrays;

/**
 * Fields, shooting stars that fall in them and the cries of people who wish: who owes what to whom.
 * The face and its promises are told in the document; people are 0 to 5, "nobody" is -1 inside.
 */
public final class FellInField {
    public static final int BAD = -1, NOT = -2, FULL = -3, STATE = -5, VOID = -2000000000;

    private static final int NOTHING_THERE = -11, OTHER_KIND = -12, NO_PLACE = -13, SIZE_BELOW_0 = -14;
    private static final int NOBODY = -1;
    private static final int PEOPLE = 6;
    private static final int SIDE = 20, CELLS = 400;
    private static final int MINUTES = 1000;
    private static final int WISH = 12;
    private static final int SHELVES = 6;
    private static final int LAW_FAULT = -100;

    private final Land land = new Land();
    private final Law law = new Law();
    private final LawReader reader = new LawReader();
    private final Reckoning reckoning = new Reckoning(land, law);
    private final Wonder wonder = new Wonder(land, reckoning);
    private final Year year = new Year(land, reckoning);
    private final Witnesses witnesses = new Witnesses(land);
    private final Deeds deeds = new Deeds();
    private final Deeds imageDeeds = new Deeds();
    private final int[] imageOwners = new int[Land.MOST_FIELDS];
    private int imageFields = -1;
    private final Changes changes = new Changes();
    private final Bodies bodies = new Bodies();
    private final Shelf[] shelves = new Shelf[SHELVES];

    public FellInField() {
        for (int i = 0; i < SHELVES; i++) {
            shelves[i] = new Shelf();
        }
    }

    // ---- fields, falls, cries

    public int field(int xy, int wd) {
        if (!isCell(xy) || !isSize(wd)) {
            return BAD;
        }
        return land.fields == Land.MOST_FIELDS ? FULL : land.addField(xy, wd);
    }

    public int fall(int xy, int minute) {
        if (!isCell(xy) || !isWithin(minute, 0, MINUTES - 1)) {
            return BAD;
        }
        return land.falls == Land.MOST_FALLS ? FULL : land.addFall(xy, minute);
    }

    public int falls(int shelf, int i, int n) {
        if (!isShelf(shelf) || !isWithin(n, 1, Land.MOST_FALLS)) {
            return BAD;
        }
        int refusal = shelves[shelf].refusalOfRow(Shelf.SHORTS);
        if (refusal == OTHER_KIND) {
            return OTHER_KIND;
        }
        // A row that is missing ends at once, as does a place ahead of it.
        return refusal != 0 || i < 0 ? 0 : fallsFrom(shelves[shelf], i, n);
    }

    private int fallsFrom(Shelf row, int i, int n) {
        int came = 0;
        for (int at = i; came < n && at <= row.length - 3; at += 3) {
            long x = row.elements[at];
            long y = row.elements[at + 1];
            long minute = row.elements[at + 2];
            if (!isSide(x) || !isSide(y) || minute < 0 || minute >= MINUTES || land.falls == Land.MOST_FALLS) {
                break;
            }
            land.addFall(SIDE * (int) y + (int) x, (int) minute);
            came++;
        }
        return came;
    }

    public int cry(int who, int minute) {
        if (!isPerson(who) || !isWithin(minute, 0, MINUTES - 1)) {
            return BAD;
        }
        return land.cries == Land.MOST_CRIES ? FULL : land.addCry(who, minute);
    }

    public int mend(int number, int what, int v) {
        if (!land.has(number, what) || !isWithin(v, Land.LEAST[what], Land.MOST[what])) {
            return VOID;
        }
        int was = land.numbers[what][number];
        if (was != v) {
            land.numbers[what][number] = v;
            changes.add(number, what, was, v);
        }
        return was;
    }

    public int of(int number, int what) {
        if (what == Land.FALL_FOUND) {
            return isFall(number) ? deeds.found >> number & 1 : VOID;
        }
        return land.has(number, what) ? land.numbers[what][number] : VOID;
    }

    public int feed(int letter) {
        if (!isWithin(letter, 0, 255)) {
            return BAD;
        }
        return reader.length == LawReader.LONGEST ? FULL : reader.take(letter);
    }

    public int law() {
        boolean stands = reader.isText();
        if (stands) {
            reader.handTo(law);
        }
        int answer = stands ? 1 : LAW_FAULT - reader.at;
        reader.length = 0;
        return answer;
    }

    public int counts(int fc) {
        return isFallAndCry(fc) ? reckoning.countOf(fc / 100, fc % 100) : VOID;
    }

    // ---- in thought

    public int at(int xy) {
        if (!isCell(xy)) {
            return BAD;
        }
        int field = land.fieldAt(xy % SIDE, xy / SIDE);
        return field < 0 ? NOT : field;
    }

    public int whose(int fall, int what) {
        if (!isFall(fall) || !isWithin(what, 0, 4)) {
            return BAD;
        }
        int field = land.fieldUnder(fall);
        int finder = land.ownerOf(field);
        if (what == 0) {
            return field < 0 ? NOT : field;
        }
        if (what == 1) {
            return finder < 0 ? NOT : finder;
        }
        reckoning.weigh(fall, finder, -1);
        if (what == 2) {
            return reckoning.many;
        }
        return what == 3 ? reckoning.having : reckoning.most;
    }

    public int owed(int ab) {
        boolean owesInAll = isWithin(ab, -PEOPLE, -1);
        boolean isOwedInAll = isWithin(ab, -10 - PEOPLE, -11);
        if (!owesInAll && !isOwedInAll && !isPair(ab)) {
            return VOID;
        }
        reckoning.reckonDebts();
        if (owesInAll) {
            return reckoning.owes(-1 - ab);
        }
        return isOwedInAll ? reckoning.isOwed(-11 - ab) : reckoning.debts[debtAt(ab)];
    }

    public int who(int what) {
        switch (what) {
            case 0:
                return reckoning.quarrel();
            case 1:
                return reckoning.busiest();
            case 2:
                return reckoning.mostFallsOfOne();
            case 3:
                return reckoning.skeptic();
            case 4:
                return reckoning.idle();
            default:
                return BAD;
        }
    }

    public int hedge(int field, int wd) {
        if (!isField(field) || !isSize(wd) || land.ownerOf(field) < 0) {
            return VOID;
        }
        return wonder.hedgeMoved(field, wd / 100, wd % 100);
    }

    public int later(int fc) {
        return isFallAndCry(fc) ? wonder.minutesLater(fc / 100, fc % 100) : BAD;
    }

    public int louder(int fc) {
        return isFallAndCry(fc) ? wonder.leastLoud(fc / 100, fc % 100) : BAD;
    }

    public int bestCry(int cry, int what) {
        if (!isWithin(cry, 0, land.cries - 1) || !isWithin(what, 0, 1)) {
            return BAD;
        }
        wonder.seekMinute(cry);
        return what == 0 ? wonder.bestMinute : wonder.bestWorth;
    }

    public int buy(int one, int coins, int what) {
        if (!isPerson(one) || !isWithin(coins, 0, 999) || !isWithin(what, 0, 1)) {
            return VOID;
        }
        // A field that is not one's own makes it owe nothing, and one that is its own never pays it: so to buy
        // never gains, and of like ones that which costs no coins and has no bits is best.
        if (what == 1) {
            return 0;
        }
        reckoning.reckonDebts();
        return reckoning.worthOf(one);
    }

    public int sellOff(int one, int what) {
        if (!isPerson(one) || !isWithin(what, 0, 1)) {
            return BAD;
        }
        int burdens = wonder.fieldsThatBurden(one);
        return what == 0 ? Integer.bitCount(burdens) : burdens;
    }

    public int cleared(int ab, int what) {
        boolean unlike = isPair(ab) && ab / 10 != ab % 10;
        if (what == 0 ? !unlike : ab != 0 || !isWithin(what, 1, 2)) {
            return VOID;
        }
        reckoning.reckonDebts();
        if (what == 0) {
            reckoning.clearRings();
            return reckoning.debts[debtAt(ab)];
        }
        int rich = reckoning.richest();
        return what == 1 ? rich : reckoning.worthOf(rich);
    }

    // ---- sight, ears, years

    public int sight(int shelf, int what) {
        int refusal = isWithin(what, 0, 3) ? refusalOfRow(shelf, Shelf.BYTES) : BAD;
        if (refusal != 0) {
            return refusal;
        }
        witnesses.look(shelves[shelf]);
        switch (what) {
            case 0:
                return witnesses.many;
            case 1:
                return witnesses.first;
            case 2:
                return witnesses.fields;
            default:
                return witnesses.columnToAsk();
        }
    }

    public int ears(int shelf, int what) {
        int refusal = isWithin(what, 0, 2) ? refusalOfRow(shelf, Shelf.SHORTS) : BAD;
        if (refusal != 0) {
            return refusal;
        }
        witnesses.listen(shelves[shelf]);
        if (what == 0) {
            return witnesses.many;
        }
        return what == 1 ? witnesses.first : witnesses.minute;
    }

    public int judge(int shelf) {
        int refusal = refusalOfRow(shelf, Shelf.BYTES);
        return refusal != 0 ? refusal : year.firstUnlike(shelves[shelf]);
    }

    public int whoseCry(int shelf, int wl, int what) {
        boolean told = wl >= 0 && isPerson(wl / 100) && wl / 10 % 10 <= Land.MOST[Land.CRY_WISH];
        int refusal = told && isWithin(what, 0, 1) ? refusalOfRow(shelf, Shelf.BYTES) : BAD;
        if (refusal != 0) {
            return refusal;
        }
        if (land.cries == Land.MOST_CRIES) {
            return STATE;
        }
        year.seekMinutes(shelves[shelf], wl / 100, wl / 10 % 10, wl % 10);
        return what == 0 ? year.minutes : year.leastMinute;
    }

    public int drawn(int seed, int nm, int what, int one) {
        boolean nights = nm >= 0 && isWithin(nm / 100, 1, 30) && isWithin(nm % 100, 1, 20);
        if (!nights || !isWithin(what, 0, 1) || what == 1 && !isPerson(one)) {
            return BAD;
        }
        int had = reckoning.draw(seed, (nm / 100) * (nm % 100));
        return what == 0 ? had : reckoning.owes(one);
    }

    // ---- in deed

    public int find(int fall) {
        if (!isFall(fall)) {
            return BAD;
        }
        if ((deeds.found >> fall & 1) != 0) {
            return STATE;
        }
        deeds.found |= 1 << fall;
        return reckoning.settle(fall, deeds.debts);
    }

    public int pay(int ab, int n) {
        if (!isPair(ab) || ab / 10 == ab % 10 || !isWithin(n, 1, 999)) {
            return BAD;
        }
        int at = debtAt(ab);
        if (deeds.debts[at] < n) {
            return STATE;
        }
        deeds.debts[at] -= n;
        deeds.payments++;
        deeds.paid += n;
        return deeds.debts[at];
    }

    public int give(int field, int one) {
        if (!isField(field) || !isWithin(one, NOBODY, PEOPLE - 1)) {
            return VOID;
        }
        int was = land.numbers[Land.FIELD_OWNER][field];
        land.numbers[Land.FIELD_OWNER][field] = one;
        deeds.gifts++;
        return was;
    }

    public int led(int what) {
        switch (what) {
            case 0:
                return Integer.bitCount(deeds.found);
            case 1:
                return deeds.payments;
            case 2:
                return deeds.paid;
            case 3:
                return deeds.gifts;
            default:
                return what >= 100 && isPair(what - 100) ? deeds.debts[debtAt(what - 100)] : BAD;
        }
    }

    public int image() {
        imageDeeds.copyOf(deeds);
        imageFields = land.fields;
        System.arraycopy(land.numbers[Land.FIELD_OWNER], 0, imageOwners, 0, imageFields);
        return Integer.bitCount(deeds.found);
    }

    public int back() {
        if (imageFields < 0) {
            return STATE;
        }
        deeds.copyOf(imageDeeds);
        System.arraycopy(imageOwners, 0, land.numbers[Land.FIELD_OWNER], 0, imageFields);
        return Integer.bitCount(deeds.found);
    }

    public int undo() {
        return changes.done == 0 ? STATE : changes.takeBack(land);
    }

    public int redo() {
        return changes.undone == 0 ? STATE : changes.doAgain(land);
    }

    // ---- acts, shelves

    public int body(int kind) {
        if (!isKind(kind)) {
            return BAD;
        }
        return bodies.many == Bodies.MOST_BODIES ? FULL : bodies.add(kind);
    }

    public int act(int body, int act, int x) {
        bodies.ran = 0;
        return isBody(body) && isWithin(act, 0, Bodies.ACTS - 1) ? bodies.ofItsOwn(body, act, x, 0) : 0;
    }

    public int trace(int i) {
        return isWithin(i, 0, Math.min(bodies.ran, Bodies.TRACED) - 1) ? bodies.began[i] : BAD;
    }

    public int keep(int shelf, int body) {
        if (!isShelf(shelf) || body != -1 && !isBody(body)) {
            return BAD;
        }
        shelves[shelf].hold(body);
        return 1;
    }

    public int row(int shelf, int sort, int n) {
        if (!isShelf(shelf) || !isWithin(sort, Shelf.BYTES, Shelf.BOOLEANS) || n > Shelf.LONGEST) {
            return BAD;
        }
        if (n < 0) {
            return SIZE_BELOW_0;
        }
        shelves[shelf].holdRow(sort, n);
        return 1;
    }

    public int put(int shelf, int i, long v) {
        int refusal = refusalOfElement(shelf, i);
        if (refusal != 0) {
            return refusal;
        }
        Shelf row = shelves[shelf];
        row.elements[i] = row.lowestBits(v);
        return 1;
    }

    public long element(int shelf, int i) {
        return refusalOfElement(shelf, i) != 0 ? Long.MIN_VALUE : shelves[shelf].elements[i];
    }

    public int shift(int shelf, int i, int other, int j, int n) {
        if (!isShelf(shelf) || !isShelf(other)) {
            return BAD;
        }
        Shelf from = shelves[shelf];
        Shelf to = shelves[other];
        if (from.holds == Shelf.NOTHING || to.holds == Shelf.NOTHING) {
            return NOTHING_THERE;
        }
        if (from.holds != Shelf.ROW || to.holds != Shelf.ROW || from.sort != to.sort) {
            return OTHER_KIND;
        }
        if (!from.hasPlaces(i, n) || !to.hasPlaces(j, n)) {
            return NO_PLACE;
        }
        System.arraycopy(from.elements, i, to.elements, j, n);
        return n;
    }

    public int taken(int shelf, int k) {
        if (!isShelf(shelf) || !isKind(k)) {
            return BAD;
        }
        Shelf held = shelves[shelf];
        if (held.holds == Shelf.NOTHING) {
            return NOTHING_THERE;
        }
        if (held.holds != Shelf.BODY || !isBody(held.body)) {
            return OTHER_KIND;
        }
        int kind = bodies.kinds[held.body];
        return bodies.isUnder(kind, k) ? kind : OTHER_KIND;
    }

    public int count(int what) {
        switch (what) {
            case 0:
                return land.fields;
            case 1:
                return land.falls;
            case 2:
                return land.cries;
            case 3:
                return reader.length;
            case 4:
                return changes.done;
            case 5:
                return bodies.many;
            case 6:
                return bodies.ran;
            default:
                return BAD;
        }
    }

    // ---- what arguments may be

    private static boolean isWithin(int v, int least, int most) {
        return v >= least && v <= most;
    }

    private static boolean isSide(long v) {
        return v >= 0 && v < SIDE;
    }

    private static boolean isCell(int xy) {
        return isWithin(xy, 0, CELLS - 1);
    }

    private static boolean isSize(int wd) {
        return isWithin(wd / 100, 1, SIDE) && isWithin(wd % 100, 1, SIDE);
    }

    private static boolean isPerson(int one) {
        return isWithin(one, 0, PEOPLE - 1);
    }

    private static boolean isPair(int ab) {
        return ab >= 0 && isPerson(ab / 10) && isPerson(ab % 10);
    }

    private static int debtAt(int ab) {
        return PEOPLE * (ab / 10) + ab % 10;
    }

    private static boolean isKind(int kind) {
        return isWithin(kind, 0, Bodies.KINDS - 1);
    }

    private static boolean isShelf(int shelf) {
        return isWithin(shelf, 0, SHELVES - 1);
    }

    private boolean isField(int field) {
        return isWithin(field, 0, land.fields - 1);
    }

    private boolean isFall(int fall) {
        return isWithin(fall, 0, land.falls - 1);
    }

    private boolean isFallAndCry(int fc) {
        return fc >= 0 && isFall(fc / 100) && fc % 100 < land.cries;
    }

    private boolean isBody(int body) {
        return isWithin(body, 0, bodies.many - 1);
    }

    private int refusalOfRow(int shelf, int sort) {
        return isShelf(shelf) ? shelves[shelf].refusalOfRow(sort) : BAD;
    }

    private int refusalOfElement(int shelf, int i) {
        return isShelf(shelf) ? shelves[shelf].refusalOfPlace(i) : BAD;
    }

    /** Fields, falls and cries with their numbers, told by what they are (as of mend()) and whose. */
    private static final class Land {
        static final int MOST_FIELDS = 8, MOST_FALLS = 10, MOST_CRIES = 12;
        /** Places behind the falls and the cries, for one that is only thought of. */
        static final int DRAWN_FALL = 10, THOUGHT_CRY = 12;
        static final int FIELD_X = 0, FIELD_Y = 1, FIELD_WIDE = 2, FIELD_DEEP = 3, FIELD_OWNER = 4, FIELD_PRICE = 5;
        static final int FALL_X = 6, FALL_Y = 7, FALL_MINUTE = 8, FALL_WHAT = 9;
        static final int CRY_WHO = 10, CRY_MINUTE = 11, CRY_WISH = 12, CRY_LOUD = 13;
        static final int FALL_FOUND = 14;
        static final int[] LEAST = {0, 0, 1, 1, -1, 0, 0, 0, 0, 0, 0, 0, 0, 0};
        static final int[] MOST = {19, 19, 20, 20, 5, 99, 19, 19, 999, 3, 5, 999, 3, 9};

        final int[][] numbers = new int[14][13];
        int fields;
        int falls;
        int cries;

        int addField(int xy, int wd) {
            int field = fields;
            fields++;
            numbers[FIELD_X][field] = xy % SIDE;
            numbers[FIELD_Y][field] = xy / SIDE;
            numbers[FIELD_WIDE][field] = wd / 100;
            numbers[FIELD_DEEP][field] = wd % 100;
            numbers[FIELD_OWNER][field] = NOBODY;
            numbers[FIELD_PRICE][field] = 10;
            return field;
        }

        int addFall(int xy, int minute) {
            int fall = falls;
            falls++;
            placeFall(fall, xy, minute, 0);
            return fall;
        }

        void placeFall(int fall, int xy, int minute, int what) {
            numbers[FALL_X][fall] = xy % SIDE;
            numbers[FALL_Y][fall] = xy / SIDE;
            numbers[FALL_MINUTE][fall] = minute;
            numbers[FALL_WHAT][fall] = what;
        }

        int addCry(int who, int minute) {
            int cry = cries;
            cries++;
            placeCry(cry, who, minute, 0, 5);
            return cry;
        }

        void placeCry(int cry, int who, int minute, int wish, int loud) {
            numbers[CRY_WHO][cry] = who;
            numbers[CRY_MINUTE][cry] = minute;
            numbers[CRY_WISH][cry] = wish;
            numbers[CRY_LOUD][cry] = loud;
        }

        /** The cry that is thought of becomes like that one. */
        void thinkOf(int cry) {
            placeCry(THOUGHT_CRY, numbers[CRY_WHO][cry], numbers[CRY_MINUTE][cry],
                    numbers[CRY_WISH][cry], numbers[CRY_LOUD][cry]);
        }

        boolean has(int number, int what) {
            if (number < 0 || what < FIELD_X || what > CRY_LOUD) {
                return false;
            }
            if (what <= FIELD_PRICE) {
                return number < fields;
            }
            return number < (what <= FALL_WHAT ? falls : cries);
        }

        /** The least field that has the cell; below 0: none. */
        int fieldAt(int x, int y) {
            for (int field = 0; field < fields; field++) {
                int right = x - numbers[FIELD_X][field];
                int down = y - numbers[FIELD_Y][field];
                if (right >= 0 && right < numbers[FIELD_WIDE][field] && down >= 0 && down < numbers[FIELD_DEEP][field]) {
                    return field;
                }
            }
            return -1;
        }

        int fieldUnder(int fall) {
            return fieldAt(numbers[FALL_X][fall], numbers[FALL_Y][fall]);
        }

        int ownerOf(int field) {
            return field < 0 ? NOBODY : numbers[FIELD_OWNER][field];
        }
    }

    /**
     * A law's text as code from which a stack is worked: numbers (0 and above) and signs (below 0).
     * The stack has a place for every byte of a text, and no byte pushes more than one value.
     */
    private static final class Law {
        static final int NAMES = 6;
        static final int EITHER = -7, BOTH = -8, LESS = -9, LIKE = -10, MORE = -11, PLUS = -12, MINUS = -13;
        static final int TIMES = -14, BY = -15, REST = -16, NOT_SO = -17, NEGATED = -18;
        /** Behind a line's first part, and behind each line. */
        static final int IF_SO = -19, LINE_ENDS = -20;

        int[] code = new int[LawReader.LONGEST_CODE];
        int length;
        private final int[] named = new int[NAMES];
        private final int[] stack = new int[LawReader.LONGEST];

        int weight(int d, int w, int k, int l, int h, int s) {
            if (length == 0) {
                return h != 0 ? 0 : 10 + l - d + (w == k ? 3 : 0);
            }
            named[0] = d;
            named[1] = w;
            named[2] = k;
            named[3] = l;
            named[4] = h;
            named[5] = s;
            int top = 0;
            boolean passed = false;
            for (int at = 0; at < length && top < stack.length; at++) {
                int sign = code[at];
                if (sign == LINE_ENDS) {
                    if (!passed) {
                        return stack[0];
                    }
                    passed = false;
                } else if (passed) {
                    continue;
                } else if (sign >= 0) {
                    stack[top++] = sign;
                } else if (sign >= -NAMES) {
                    stack[top++] = named[-1 - sign];
                } else if (sign == IF_SO) {
                    passed = stack[0] == 0;
                    top = 0;
                } else if (sign == NOT_SO && top > 0) {
                    stack[top - 1] = stack[top - 1] == 0 ? 1 : 0;
                } else if (sign == NEGATED && top > 0) {
                    stack[top - 1] = -stack[top - 1];
                } else if (top > 1) {
                    top--;
                    stack[top - 1] = ofTwo(sign, stack[top - 1], stack[top]);
                }
            }
            return 0;
        }

        private static int ofTwo(int sign, int a, int b) {
            switch (sign) {
                case EITHER:
                    return a != 0 || b != 0 ? 1 : 0;
                case BOTH:
                    return a != 0 && b != 0 ? 1 : 0;
                case LESS:
                    return a < b ? 1 : 0;
                case LIKE:
                    return a == b ? 1 : 0;
                case MORE:
                    return a > b ? 1 : 0;
                case PLUS:
                    return a + b;
                case MINUS:
                    return a - b;
                case TIMES:
                    return a * b;
                case BY:
                    return b == 0 ? 0 : a / b;
                default:
                    return b == 0 ? 0 : a % b;
            }
        }
    }

    /** The tape, read as a law's text: each part answers whether it stands; if not, `at` is the fault. */
    private static final class LawReader {
        static final int LONGEST = 120;
        /** A sign a byte at most, and the end of the last line, which no byte tells. */
        static final int LONGEST_CODE = LONGEST + 1;
        static final int MOST_OPEN = 6;
        static final int MOST_DIGITS = 4;

        private final int[] text = new int[LONGEST];
        int length;
        int at;
        private int[] code = new int[LONGEST_CODE];
        private int coded;

        int take(int letter) {
            text[length] = letter;
            length++;
            return length;
        }

        /** Changes the two codes for one another, so that a text with a fault never touches the law. */
        void handTo(Law law) {
            int[] former = law.code;
            law.code = code;
            law.length = coded;
            code = former;
        }

        boolean isText() {
            at = 0;
            coded = 0;
            if (!readLine()) {
                return false;
            }
            while (at < length && text[at] == ';') {
                at++;
                if (!readLine()) {
                    return false;
                }
            }
            return at == length;
        }

        private void add(int sign) {
            if (coded < LONGEST_CODE) {
                code[coded] = sign;
                coded++;
            }
        }

        private boolean readLine() {
            if (!readEither(0)) {
                return false;
            }
            if (at < length && text[at] == '?') {
                at++;
                add(Law.IF_SO);
                if (!readEither(0)) {
                    return false;
                }
            }
            add(Law.LINE_ENDS);
            return true;
        }

        private boolean readEither(int open) {
            if (!readBoth(open)) {
                return false;
            }
            while (at < length && text[at] == '|') {
                at++;
                if (!readBoth(open)) {
                    return false;
                }
                add(Law.EITHER);
            }
            return true;
        }

        private boolean readBoth(int open) {
            if (!readCompared(open)) {
                return false;
            }
            while (at < length && text[at] == '&') {
                at++;
                if (!readCompared(open)) {
                    return false;
                }
                add(Law.BOTH);
            }
            return true;
        }

        private boolean readCompared(int open) {
            if (!readSum(open)) {
                return false;
            }
            int sign = signHere('<', Law.LESS, '=', Law.LIKE, '>', Law.MORE);
            if (sign == 0) {
                return true;
            }
            at++;
            if (!readSum(open)) {
                return false;
            }
            add(sign);
            return true;
        }

        private boolean readSum(int open) {
            if (!readProduct(open)) {
                return false;
            }
            while (at < length && (text[at] == '+' || text[at] == '-')) {
                int sign = text[at] == '+' ? Law.PLUS : Law.MINUS;
                at++;
                if (!readProduct(open)) {
                    return false;
                }
                add(sign);
            }
            return true;
        }

        private boolean readProduct(int open) {
            if (!readOperand(open)) {
                return false;
            }
            while (at < length && (text[at] == '*' || text[at] == '/' || text[at] == '%')) {
                int sign = signHere('*', Law.TIMES, '/', Law.BY, '%', Law.REST);
                at++;
                if (!readOperand(open)) {
                    return false;
                }
                add(sign);
            }
            return true;
        }

        private int signHere(int first, int ofFirst, int second, int ofSecond, int third, int ofThird) {
            int here = at < length ? text[at] : -1;
            if (here == first) {
                return ofFirst;
            }
            if (here == second) {
                return ofSecond;
            }
            return here == third ? ofThird : 0;
        }

        private boolean readOperand(int open) {
            if (at >= length) {
                return false;
            }
            int here = text[at];
            if (here >= '0' && here <= '9') {
                readNumber();
                return true;
            }
            if (here == '(' || here == '!' || here == '-') {
                return open < MOST_OPEN && readOpened(here, open + 1);
            }
            int name = nameOf(here);
            if (name == 0) {
                return false;
            }
            at++;
            add(name);
            return true;
        }

        private boolean readOpened(int opener, int open) {
            at++;
            if (opener == '(') {
                if (!readEither(open) || at >= length || text[at] != ')') {
                    return false;
                }
                at++;
                return true;
            }
            if (!readOperand(open)) {
                return false;
            }
            add(opener == '!' ? Law.NOT_SO : Law.NEGATED);
            return true;
        }

        private void readNumber() {
            int value = 0;
            for (int digits = 0; digits < MOST_DIGITS; digits++) {
                if (at >= length || text[at] < '0' || text[at] > '9') {
                    break;
                }
                value = 10 * value + text[at] - '0';
                at++;
            }
            add(value);
        }

        private static int nameOf(int letter) {
            switch (letter) {
                case 'd':
                    return -1;
                case 'w':
                    return -2;
                case 'k':
                    return -3;
                case 'l':
                    return -4;
                case 'h':
                    return -5;
                case 's':
                    return -6;
                default:
                    return 0;
            }
        }
    }

    /** Which cries have which fall, and what is owed by it, as things stand. */
    private static final class Reckoning {
        /** What the one owes the other, by 6 times the one and the other. */
        final int[] debts = new int[PEOPLE * PEOPLE];
        /** Of the fall weighed last: how much its cries count (0: none does), which have it, how many. */
        int most;
        int having;
        int many;
        private final Land land;
        private final Law law;
        private final int[] havingOf = new int[Land.MOST_FALLS];

        Reckoning(Land land, Law law) {
            this.land = land;
            this.law = law;
        }

        int countOf(int fall, int cry) {
            return countIf(fall, land.ownerOf(land.fieldUnder(fall)), cry);
        }

        /** How much a cry counts for a fall if the field is that owner's. */
        int countIf(int fall, int owner, int cry) {
            int[][] numbers = land.numbers;
            int ahead = numbers[Land.FALL_MINUTE][fall] - numbers[Land.CRY_MINUTE][cry];
            int home = numbers[Land.CRY_WHO][cry] == owner ? 1 : 0;
            return law.weight(Math.abs(ahead), numbers[Land.FALL_WHAT][fall], numbers[Land.CRY_WISH][cry],
                    numbers[Land.CRY_LOUD][cry], home, ahead > 0 ? 1 : 0);
        }

        /** Weighs all cries but one (below 0: all) for a fall in a field of that owner. */
        void weigh(int fall, int owner, int without) {
            most = 0;
            having = 0;
            many = 0;
            for (int cry = 0; cry < land.cries; cry++) {
                int counted = cry == without ? 0 : countIf(fall, owner, cry);
                if (counted > most) {
                    most = counted;
                    having = 0;
                    many = 0;
                }
                if (counted > 0 && counted == most) {
                    having |= 1 << cry;
                    many++;
                }
            }
        }

        /** How many of the cries that have the fall weighed last are of that one. */
        int cryingOf(int one) {
            int crying = 0;
            for (int cry = 0; cry < land.cries; cry++) {
                if ((having >> cry & 1) != 0 && land.numbers[Land.CRY_WHO][cry] == one) {
                    crying++;
                }
            }
            return crying;
        }

        /** Adds what a fall's finder owes by it to debts: how much in all. */
        int settle(int fall, int[] into) {
            int finder = land.ownerOf(land.fieldUnder(fall));
            weigh(fall, finder, -1);
            if (finder < 0 || many == 0) {
                return 0;
            }
            int share = WISH / many;
            int sum = 0;
            for (int cry = 0; cry < land.cries; cry++) {
                int who = land.numbers[Land.CRY_WHO][cry];
                if ((having >> cry & 1) != 0 && who != finder) {
                    into[PEOPLE * finder + who] += share;
                    sum += share;
                }
            }
            return sum;
        }

        void reckonDebts() {
            Arrays.fill(debts, 0);
            for (int fall = 0; fall < land.falls; fall++) {
                settle(fall, debts);
            }
        }

        /** Draws falls and reckons the debts by them: how many had a finder and a cry. */
        int draw(int seed, int falls) {
            Arrays.fill(debts, 0);
            int had = 0;
            int z = seed;
            for (int i = 0; i < falls; i++) {
                z = z * 1103515245 + 12345;
                int x = (z >>> 8) % SIDE;
                int y = (z >>> 14) % SIDE;
                land.placeFall(Land.DRAWN_FALL, SIDE * y + x, (z >>> 19) % 60, (z >>> 27) % 4);
                settle(Land.DRAWN_FALL, debts);
                if (many > 0 && land.ownerOf(land.fieldAt(x, y)) >= 0) {
                    had++;
                }
            }
            return had;
        }

        int owes(int one) {
            int sum = 0;
            for (int other = 0; other < PEOPLE; other++) {
                sum += debts[PEOPLE * one + other];
            }
            return sum;
        }

        int isOwed(int one) {
            int sum = 0;
            for (int other = 0; other < PEOPLE; other++) {
                sum += debts[PEOPLE * other + one];
            }
            return sum;
        }

        int worthOf(int one) {
            return isOwed(one) - owes(one);
        }

        int richest() {
            int rich = 0;
            for (int one = 1; one < PEOPLE; one++) {
                if (worthOf(one) > worthOf(rich)) {
                    rich = one;
                }
            }
            return rich;
        }

        /** Debts only shrink, so a ring that is past can't come again: once through them all is enough. */
        void clearRings() {
            for (int a = 0; a < PEOPLE; a++) {
                for (int b = 0; b < PEOPLE; b++) {
                    for (int c = 0; c < PEOPLE; c++) {
                        clearRing(PEOPLE * a + b, PEOPLE * b + c, PEOPLE * c + a);
                    }
                }
            }
        }

        private void clearRing(int ab, int bc, int ca) {
            int least = Math.min(debts[ab], Math.min(debts[bc], debts[ca]));
            // Nobody owes itself, so a ring in which one is named twice has a debt of 0.
            if (least > 0) {
                debts[ab] -= least;
                debts[bc] -= least;
                debts[ca] -= least;
            }
        }

        private void weighAll() {
            for (int fall = 0; fall < land.falls; fall++) {
                weigh(fall, land.ownerOf(land.fieldUnder(fall)), -1);
                havingOf[fall] = having;
            }
        }

        /** How many falls all cries of the bits have. */
        private int fallsHadBy(int cries) {
            int falls = 0;
            for (int fall = 0; fall < land.falls; fall++) {
                if ((havingOf[fall] & cries) == cries) {
                    falls++;
                }
            }
            return falls;
        }

        int quarrel() {
            weighAll();
            for (int one = 0; one < land.cries; one++) {
                for (int other = one + 1; other < land.cries; other++) {
                    boolean unlike = land.numbers[Land.CRY_WHO][one] != land.numbers[Land.CRY_WHO][other];
                    if (unlike && fallsHadBy(1 << one | 1 << other) > 0) {
                        return 100 * one + other;
                    }
                }
            }
            return NOT;
        }

        int busiest() {
            weighAll();
            int busy = NOT;
            int falls = 0;
            for (int cry = 0; cry < land.cries; cry++) {
                int had = fallsHadBy(1 << cry);
                if (had > falls) {
                    busy = cry;
                    falls = had;
                }
            }
            return busy;
        }

        int mostFallsOfOne() {
            int busy = busiest();
            return busy < 0 ? 0 : fallsHadBy(1 << busy);
        }

        int idle() {
            weighAll();
            int idle = 0;
            for (int cry = 0; cry < land.cries; cry++) {
                if (fallsHadBy(1 << cry) == 0) {
                    idle |= 1 << cry;
                }
            }
            return idle;
        }

        /** Who owes something has a field. */
        int skeptic() {
            reckonDebts();
            for (int one = 0; one < PEOPLE; one++) {
                if (owes(one) > 0 && !cried(one)) {
                    return one;
                }
            }
            return NOT;
        }

        private boolean cried(int one) {
            for (int cry = 0; cry < land.cries; cry++) {
                if (land.numbers[Land.CRY_WHO][cry] == one) {
                    return true;
                }
            }
            return false;
        }
    }

    /** What would come of it if a hedge, a cry or an owner were another. */
    private static final class Wonder {
        int bestMinute;
        int bestWorth;
        private final Land land;
        private final Reckoning reckoning;
        private final int[] finder = new int[Land.MOST_FALLS];
        /** Of the other cries, fall by fall: how much they count, how many have it, how many of them one cried. */
        private final int[] most = new int[Land.MOST_FALLS];
        private final int[] many = new int[Land.MOST_FALLS];
        private final int[] own = new int[Land.MOST_FALLS];

        Wonder(Land land, Reckoning reckoning) {
            this.land = land;
            this.reckoning = reckoning;
        }

        int hedgeMoved(int field, int wide, int deep) {
            int[] wides = land.numbers[Land.FIELD_WIDE];
            int[] deeps = land.numbers[Land.FIELD_DEEP];
            int formerWide = wides[field];
            int formerDeep = deeps[field];
            int owner = land.ownerOf(field);
            reckoning.reckonDebts();
            int now = reckoning.owes(owner);
            wides[field] = wide;
            deeps[field] = deep;
            reckoning.reckonDebts();
            wides[field] = formerWide;
            deeps[field] = formerDeep;
            return reckoning.owes(owner) - now;
        }

        int minutesLater(int fall, int cry) {
            int minute = land.numbers[Land.CRY_MINUTE][cry];
            int owner = land.ownerOf(land.fieldUnder(fall));
            reckoning.weigh(fall, owner, cry);
            land.thinkOf(cry);
            int latest = Math.min(99, MINUTES - 1 - minute);
            int later = NOT;
            for (int more = 0; more <= latest; more++) {
                land.numbers[Land.CRY_MINUTE][Land.THOUGHT_CRY] = minute + more;
                if (!thoughtHas(fall, owner)) {
                    break;
                }
                later = more;
            }
            return later;
        }

        int leastLoud(int fall, int cry) {
            int owner = land.ownerOf(land.fieldUnder(fall));
            reckoning.weigh(fall, owner, cry);
            land.thinkOf(cry);
            for (int loud = 0; loud <= Land.MOST[Land.CRY_LOUD]; loud++) {
                land.numbers[Land.CRY_LOUD][Land.THOUGHT_CRY] = loud;
                if (thoughtHas(fall, owner)) {
                    return loud;
                }
            }
            return NOT;
        }

        /** Whether the cry that is thought of has the fall, behind weigh() of the others. */
        private boolean thoughtHas(int fall, int owner) {
            int counted = reckoning.countIf(fall, owner, Land.THOUGHT_CRY);
            return counted > 0 && counted >= reckoning.most;
        }

        void seekMinute(int cry) {
            int who = land.numbers[Land.CRY_WHO][cry];
            weighOthers(cry, who);
            land.thinkOf(cry);
            bestMinute = 0;
            bestWorth = -1;
            for (int minute = 0; minute < MINUTES; minute++) {
                land.numbers[Land.CRY_MINUTE][Land.THOUGHT_CRY] = minute;
                int worth = 0;
                for (int fall = 0; fall < land.falls; fall++) {
                    worth += earnedBy(fall, who);
                }
                if (worth > bestWorth) {
                    bestMinute = minute;
                    bestWorth = worth;
                }
            }
        }

        private void weighOthers(int cry, int who) {
            for (int fall = 0; fall < land.falls; fall++) {
                finder[fall] = land.ownerOf(land.fieldUnder(fall));
                reckoning.weigh(fall, finder[fall], cry);
                most[fall] = reckoning.most;
                many[fall] = reckoning.many;
                own[fall] = reckoning.cryingOf(who);
            }
        }

        /** What who cried is owed by a fall with the cry that is thought of. */
        private int earnedBy(int fall, int who) {
            if (finder[fall] < 0 || finder[fall] == who) {
                return 0;
            }
            int counted = reckoning.countIf(fall, finder[fall], Land.THOUGHT_CRY);
            if (counted > most[fall]) {
                return WISH;
            }
            boolean shares = counted > 0 && counted == most[fall];
            int sharers = shares ? many[fall] + 1 : many[fall];
            int owns = shares ? own[fall] + 1 : own[fall];
            return sharers == 0 ? 0 : WISH / sharers * owns;
        }

        /** The fields by which one owes: given away they leave it owing nothing, fewer never do; NOT never comes. */
        int fieldsThatBurden(int one) {
            int bits = 0;
            for (int fall = 0; fall < land.falls; fall++) {
                int field = land.fieldUnder(fall);
                if (land.ownerOf(field) == one && reckoning.settle(fall, reckoning.debts) > 0) {
                    bits |= 1 << field;
                }
            }
            return bits;
        }
    }

    /** Years read back: a row tells fall by fall who was paid for it alone (-1: nobody, or several). */
    private static final class Year {
        int minutes;
        int leastMinute;
        private final Land land;
        private final Reckoning reckoning;
        private final int[] finder = new int[Land.MOST_FALLS];
        private final int[] most = new int[Land.MOST_FALLS];
        /** Those who cried what has the fall, as bits. */
        private final int[] criers = new int[Land.MOST_FALLS];

        Year(Land land, Reckoning reckoning) {
            this.land = land;
            this.reckoning = reckoning;
        }

        int firstUnlike(Shelf row) {
            weighFalls();
            for (int fall = 0; fall < row.length; fall++) {
                if (fall >= land.falls || row.elements[fall] != paidAlone(fall, criers[fall])) {
                    return fall;
                }
            }
            return NOT;
        }

        void seekMinutes(Shelf row, int who, int wish, int loud) {
            minutes = 0;
            leastMinute = NOT;
            if (row.length > land.falls) {
                return;
            }
            weighFalls();
            for (int minute = 0; minute < MINUTES; minute++) {
                land.placeCry(Land.THOUGHT_CRY, who, minute, wish, loud);
                if (isSoWith(row, who)) {
                    leastMinute = minutes == 0 ? minute : leastMinute;
                    minutes++;
                }
            }
        }

        private void weighFalls() {
            for (int fall = 0; fall < land.falls; fall++) {
                finder[fall] = land.ownerOf(land.fieldUnder(fall));
                reckoning.weigh(fall, finder[fall], -1);
                most[fall] = reckoning.most;
                criers[fall] = 0;
                for (int one = 0; one < PEOPLE; one++) {
                    criers[fall] |= reckoning.cryingOf(one) > 0 ? 1 << one : 0;
                }
            }
        }

        /** Whether the row is so with the cry that is thought of. */
        private boolean isSoWith(Shelf row, int who) {
            for (int fall = 0; fall < row.length; fall++) {
                int counted = reckoning.countIf(fall, finder[fall], Land.THOUGHT_CRY);
                int now = criers[fall];
                if (counted > most[fall]) {
                    now = 1 << who;
                } else if (counted > 0 && counted == most[fall]) {
                    now |= 1 << who;
                }
                if (row.elements[fall] != paidAlone(fall, now)) {
                    return false;
                }
            }
            return true;
        }

        /** The finder pays those who cried, but not itself. */
        private int paidAlone(int fall, int crying) {
            if (finder[fall] < 0) {
                return NOBODY;
            }
            int paid = crying & ~(1 << finder[fall]);
            for (int one = 0; one < PEOPLE; one++) {
                if (paid == 1 << one) {
                    return one;
                }
            }
            return NOBODY;
        }
    }

    /** Those who saw a fall, or heard a cry, as rows tell them: where it may have been. */
    private static final class Witnesses {
        int many;
        int first;
        int fields;
        int minute;
        private final Land land;
        private final int[] seenBy = new int[CELLS];
        private final int[] inColumn = new int[SIDE];

        Witnesses(Land land) {
            this.land = land;
        }

        private void forget() {
            many = 0;
            first = NOT;
            fields = 0;
            minute = NOT;
            Arrays.fill(inColumn, 0);
        }

        void look(Shelf row) {
            forget();
            if (row.length % 4 != 0) {
                return;
            }
            Arrays.fill(seenBy, 0);
            for (int at = 0; at <= row.length - 4; at += 4) {
                if (!follow((int) row.elements[at], (int) row.elements[at + 1],
                        (int) row.elements[at + 2], (int) row.elements[at + 3])) {
                    return;
                }
            }
            for (int xy = 0; xy < CELLS; xy++) {
                if (seenBy[xy] == row.length / 4) {
                    addSeen(xy);
                }
            }
        }

        /** Marks the cells that one of them saw; false: it is not as it may be. */
        private boolean follow(int x, int y, int dx, int dy) {
            boolean whither = isWithin(dx, -9, 9) && isWithin(dy, -9, 9) && (dx != 0 || dy != 0);
            if (!isSide(x) || !isSide(y) || !whither) {
                return false;
            }
            for (int step = 0; step < SIDE; step++) {
                int toX = x + step * dx;
                int toY = y + step * dy;
                if (!isSide(toX) || !isSide(toY)) {
                    break;
                }
                seenBy[SIDE * toY + toX]++;
            }
            return true;
        }

        private void addSeen(int xy) {
            if (many == 0) {
                first = xy;
            }
            many++;
            inColumn[xy % SIDE]++;
            int field = land.fieldAt(xy % SIDE, xy / SIDE);
            if (field >= 0) {
                fields |= 1 << field;
            }
        }

        int columnToAsk() {
            int best = NOT;
            int bestOff = 0;
            for (int x = 0; x < SIDE && many > 0; x++) {
                int off = Math.abs(2 * inColumn[x] - many);
                if (best < 0 || off < bestOff) {
                    best = x;
                    bestOff = off;
                }
            }
            return best;
        }

        void listen(Shelf row) {
            forget();
            if (row.length == 0 || row.length % 3 != 0) {
                return;
            }
            for (int at = 0; at <= row.length - 3; at += 3) {
                if (!isSide(row.elements[at]) || !isSide(row.elements[at + 1])) {
                    return;
                }
            }
            for (int xy = 0; xy < CELLS; xy++) {
                int cried = minuteCried(row, xy);
                if (cried >= 0) {
                    minute = many == 0 ? cried : minute;
                    first = many == 0 ? xy : first;
                    many++;
                }
            }
        }

        /** The minute in which it was cried at that cell if all heard it as told; below 0: they did not. */
        private int minuteCried(Shelf row, int xy) {
            int cried = 0;
            for (int at = 0; at <= row.length - 3; at += 3) {
                int apart = Math.abs((int) row.elements[at] - xy % SIDE)
                        + Math.abs((int) row.elements[at + 1] - xy / SIDE);
                int by = (int) row.elements[at + 2] - apart;
                if (by < 0 || at > 0 && by != cried) {
                    return -1;
                }
                cried = by;
            }
            return cried;
        }
    }

    /** What was done: found falls (bits), what is owed by them, what was paid and given. */
    private static final class Deeds {
        final int[] debts = new int[PEOPLE * PEOPLE];
        int found;
        int payments;
        int paid;
        int gifts;

        void copyOf(Deeds other) {
            System.arraycopy(other.debts, 0, debts, 0, debts.length);
            found = other.found;
            payments = other.payments;
            paid = other.paid;
            gifts = other.gifts;
        }
    }

    /** The latest changes: those done, and behind them those undone that may be done again. */
    private static final class Changes {
        static final int MOST_KEPT = 40;

        int done;
        int undone;
        private final int[] number = new int[MOST_KEPT];
        private final int[] what = new int[MOST_KEPT];
        private final int[] was = new int[MOST_KEPT];
        private final int[] became = new int[MOST_KEPT];

        void add(int ofNumber, int ofWhat, int former, int now) {
            if (done == MOST_KEPT) {
                forgetOldest();
            }
            number[done] = ofNumber;
            what[done] = ofWhat;
            was[done] = former;
            became[done] = now;
            done++;
            undone = 0;
        }

        private void forgetOldest() {
            done--;
            System.arraycopy(number, 1, number, 0, done);
            System.arraycopy(what, 1, what, 0, done);
            System.arraycopy(was, 1, was, 0, done);
            System.arraycopy(became, 1, became, 0, done);
        }

        int takeBack(Land land) {
            done--;
            undone++;
            land.numbers[what[done]][number[done]] = was[done];
            return done;
        }

        int doAgain(Land land) {
            land.numbers[what[done]][number[done]] = became[done];
            done++;
            undone--;
            return undone;
        }
    }

    /** Bodies of kinds, whose acts are their kind's own or come from a kind above. */
    private static final class Bodies {
        static final int KINDS = 8, ACTS = 4, MOST_BODIES = 50, TRACED = 24;
        private static final int FALLS = 0, WISHES = 1, OWES = 2, TELLS = 3;
        private static final int STAR = 0, NAIL = 1, HINGE = 2, SPOON = 3, CRY = 4, HEDGE = 5, PAWN = 6, NOTHING = 7;
        private static final int DEEPEST = 20;
        /** The kind above each kind; always a lesser number. */
        private static final int[] ABOVE = {-1, STAR, STAR, HINGE, NAIL, SPOON, STAR, PAWN};
        /** The body of an act that a kind has of its own, by 4 times the kind and the act; 0: none. */
        private static final int[] OWN = {
            1, 10, 11, 2,
            20, 0, 0, 0,
            0, 30, 0, 0,
            0, 41, 40, 0,
            0, 0, 0, 50,
            0, 0, 60, 61,
            70, 0, 0, 0,
            81, 80, 0, 0,
        };

        final int[] kinds = new int[MOST_BODIES];
        int many;
        final int[] began = new int[TRACED];
        int ran;

        int add(int kind) {
            kinds[many] = kind;
            many++;
            return many - 1;
        }

        boolean isUnder(int kind, int above) {
            int at = kind;
            for (int step = 0; step < KINDS && at >= 0; step++) {
                if (at == above) {
                    return true;
                }
                at = ABOVE[at];
            }
            return false;
        }

        /** An act as the body's own kind has it. */
        int ofItsOwn(int n, int act, int x, int depth) {
            return runFrom(kinds[n], n, act, x, depth);
        }

        /** An act as the kind above has it. */
        private int fromAbove(int kind, int n, int act, int x, int depth) {
            return runFrom(ABOVE[kind], n, act, x, depth);
        }

        private int runFrom(int kind, int n, int act, int x, int depth) {
            int at = kind;
            for (int step = 0; step < KINDS && at >= 0; step++) {
                int body = OWN[ACTS * at + act];
                if (body != 0) {
                    return depth < DEEPEST ? run(body, n, x, depth + 1) : 0;
                }
                at = ABOVE[at];
            }
            return 0;
        }

        private int run(int body, int n, int x, int depth) {
            if (ran < TRACED) {
                began[ran] = body;
            }
            ran++;
            switch (body) {
                case 1:
                    return x + n;
                case 2:
                    return ofItsOwn(n, WISHES, x, depth) - ofItsOwn(n, OWES, 1, depth);
                case 10:
                    return ofItsOwn(n, FALLS, x, depth) * 2;
                case 11:
                    return x ^ n;
                case 20:
                    return fromAbove(NAIL, n, FALLS, x, depth) + 3;
                case 30:
                    return -fromAbove(HINGE, n, WISHES, x, depth);
                case 40:
                    return fromAbove(SPOON, n, OWES, x, depth) * 3;
                case 41:
                    return fromAbove(SPOON, n, WISHES, x + 1, depth);
                case 50:
                    return fromAbove(CRY, n, TELLS, x, depth) ^ 5;
                case 60:
                    return fromAbove(HEDGE, n, OWES, x, depth) - ofItsOwn(n, FALLS, 2, depth);
                case 61:
                    return fromAbove(HEDGE, n, TELLS, x, depth) + 1;
                case 70:
                    return fromAbove(PAWN, n, FALLS, x, depth) * 2;
                case 80:
                    return fromAbove(NOTHING, n, WISHES, x, depth) + ofItsOwn(n, OWES, 2, depth);
                case 81:
                    return fromAbove(NOTHING, n, FALLS, x, depth) - 1;
                default:
                    return 0;
            }
        }
    }

    /** A shelf holds nothing, a body or a row; the row's elements are kept as longs and used again. */
    private static final class Shelf {
        static final int NOTHING = 0, BODY = 1, ROW = 2;
        static final int BYTES = 0, SHORTS = 1, INTS = 2, LONGS = 3, BOOLEANS = 4;
        static final int LONGEST = 60;

        int holds;
        int body;
        int sort;
        int length;
        final long[] elements = new long[LONGEST];

        /** A body, or nothing (-1). */
        void hold(int number) {
            holds = number < 0 ? NOTHING : BODY;
            body = number;
        }

        void holdRow(int ofSort, int n) {
            holds = ROW;
            sort = ofSort;
            length = n;
            Arrays.fill(elements, 0L);
        }

        int refusalOfRow(int ofSort) {
            if (holds == NOTHING) {
                return NOTHING_THERE;
            }
            return holds == ROW && sort == ofSort ? 0 : OTHER_KIND;
        }

        int refusalOfPlace(int i) {
            if (holds == NOTHING) {
                return NOTHING_THERE;
            }
            if (holds != ROW) {
                return OTHER_KIND;
            }
            return isWithin(i, 0, length - 1) ? 0 : NO_PLACE;
        }

        /** Lengths are compared by a difference that can't wrap, as i and n may be any ints. */
        boolean hasPlaces(int i, int n) {
            return n >= 0 && n <= length && i >= 0 && i <= length - n;
        }

        long lowestBits(long v) {
            switch (sort) {
                case BYTES:
                    return (byte) v;
                case SHORTS:
                    return (short) v;
                case INTS:
                    return (int) v;
                case LONGS:
                    return v;
                default:
                    return v != 0 ? 1 : 0;
            }
        }
    }
}
