import java.lang.reflect.InvocationTargetException;
import java.lang.reflect.Method;
import java.util.Arrays;
import java.util.HashMap;
import java.util.Map;
import java.util.Random;
import java.util.stream.IntStream;

/** Drawn runs of all calls, as long as an object is used for: each answer of the class against ModelNight's (promises 1 to 44). */
public final class ModelRunTest {
    private static final Due DUE = new Due("ModelRunTest");
    private static final String[] LAWS = {"20-d+l*s+h", "9*(w=k)-d/7", "d<6?l;d<40&w=k?l/2;0", "1", "h?9-l;l", "(d<10)*(5-w)", "3-d%4",
        "s?7;k+1", "l>4|h", "9999*9999*l-d", "!h*(30-d)/(w-1)", "l?d", "d<", "12345", "(l-d", "-------d", "l;;d", "s?h?l", "!l", ""};
    private static final String SIGNS = "0123456789dwklhs|&<=>+-*/%!()?;";
    /** Calls that the model thinks long about are drawn less often. */
    private static final String[] OFTEN = {"field", "fall", "falls", "cry", "mend", "mend", "mend", "of", "feed", "counts", "at", "whose",
        "owed", "who", "hedge", "later", "louder", "cleared", "sight", "ears", "judge", "find", "find", "pay", "pay", "pay", "give",
        "led", "led", "image", "back", "undo", "undo", "undo", "redo", "redo", "body", "act", "trace", "keep", "row", "put", "put",
        "element", "shift", "taken", "count", "law", "TAPE", "TOLD", "SEEN", "HEARD", "YEAR", "FALLEN"};
    /** Each run likes one call most, so that some runs come to where all is full. */
    private static final String[] LIKED = {"mend", "undo", "cry", "body", "TAPE", "pay", "find", "field", "FALLEN", "image", "give", "redo"};
    private static final String[] SELDOM = {"bestCry", "buy", "sellOff", "whoseCry", "drawn"};
    private static final Map<String, Method> METHODS = new HashMap<>();

    private final Random random;
    private final FellInField x = new FellInField();
    private final ModelNight m = new ModelNight();
    private final String name;
    private final String liked;
    private int calls;

    private ModelRunTest(int run) {
        random = new Random(run);
        name = "run " + run + ", call ";
        liked = LIKED[run % LIKED.length];
    }

    public static void main(String[] args) {
        for (Method method : ModelNight.class.getDeclaredMethods()) {
            METHODS.put(method.getName(), method);
        }
        int runs = args.length == 0 ? 120 : Integer.parseInt(args[0]);
        for (int run = 0; run < runs; run++) {
            ModelRunTest night = new ModelRunTest(run);
            if (run % 4 != 3) {
                night.begin();
            }
            while (night.calls < Run.MOST_CALLS) {
                night.next();
            }
        }
        DUE.end();
    }

    /** Some of all, so that somebody owes something. */
    private void begin() {
        for (int i = 0; i < 4; i++) {
            make("field", random.nextInt(400), 1010);
            make("mend", i, 4, random.nextInt(6));
            make("fall", 20 * (m.of(i, 1) + random.nextInt(20 - m.of(i, 1))) + m.of(i, 0), random.nextInt(8));
            make("cry", random.nextInt(6), random.nextInt(8));
        }
    }

    private long make(String call, Object... arguments) {
        if (calls == Run.MOST_CALLS) {
            return 0;
        }
        calls++;
        Call made = arguments.length == 0 ? Call.of(call + "()") : Call.of(call, arguments);
        long got = made.on(x);
        DUE.is(name + calls + ": " + made.text, got, model(call, arguments));
        return got;
    }

    private long model(String call, Object... arguments) {
        try {
            return ((Number) METHODS.get(call).invoke(m, arguments)).longValue();
        } catch (InvocationTargetException | IllegalAccessException e) {
            throw new IllegalStateException(call + Arrays.toString(arguments), e);
        }
    }

    private void next() {
        String call = drawnCall();
        switch (call) {
            case "TAPE" -> tape();
            case "TOLD" -> tellLaw();
            case "SEEN" -> rows("sight", 0, seen(), 4);
            case "HEARD" -> rows("ears", 1, heard(), 3);
            case "YEAR" -> rows("judge", 0, year(), 0);
            case "FALLEN" -> rows("falls", 1, fallen(), 0);
            default -> make(call, arguments(call));
        }
    }

    private String drawnCall() {
        if (random.nextInt(70) == 0) {
            return SELDOM[random.nextInt(SELDOM.length)];
        }
        return random.nextInt(3) == 0 ? liked : OFTEN[random.nextInt(OFTEN.length)];
    }

    /** As promised by the document mostly, and at times one that is not. */
    private int upTo(int most) {
        return random.nextInt(25) == 0 ? random.nextBoolean() ? -1 - random.nextInt(3) : most + 1 + random.nextInt(3) : random.nextInt(most + 1);
    }

    private int many(int what) {
        return Math.max(0, m.count(what) - 1);
    }

    private int pair() {
        return 10 * upTo(5) + upTo(5);
    }

    /** Two of whom the one owes the other in deed, if there are any. */
    private int owing() {
        int[] owing = IntStream.range(0, 60).filter(ab -> m.led(100 + ab) > 0).toArray();
        return owing.length == 0 ? 1 : owing[random.nextInt(owing.length)];
    }

    private int size() {
        return 100 * (upTo(19) + 1) + upTo(19) + 1;
    }

    private int fallAndCry() {
        return 100 * upTo(many(1)) + upTo(many(2));
    }

    private Object[] arguments(String call) {
        return switch (call) {
            case "field" -> args(upTo(399), size());
            case "fall" -> args(upTo(399), minute());
            case "falls" -> args(upTo(5), upTo(30), 1 + upTo(9));
            case "cry" -> args(upTo(5), minute());
            case "mend" -> mended();
            case "of" -> args(upTo(11), upTo(14));
            case "feed" -> args(random.nextInt(9) == 0 ? upTo(255) : SIGNS.charAt(random.nextInt(SIGNS.length())));
            case "counts", "later", "louder" -> args(fallAndCry());
            case "at" -> args(upTo(399));
            case "whose" -> args(upTo(many(1)), upTo(4));
            case "owed" -> args(random.nextBoolean() ? pair() : -1 - upTo(16));
            case "who", "led" -> args(call.equals("led") && random.nextBoolean() ? 100 + pair() : upTo(call.equals("led") ? 3 : 4));
            case "hedge" -> args(upTo(many(0)), size());
            case "cleared" -> random.nextInt(3) == 0 ? args(random.nextInt(9) == 0 ? 1 : 0, upTo(2)) : args(pair(), 0);
            case "sight" -> args(upTo(5), upTo(3));
            case "ears" -> args(upTo(5), upTo(2));
            case "judge" -> args(upTo(5));
            case "find" -> args(upTo(many(1)));
            case "pay" -> args(random.nextInt(4) == 0 ? pair() : owing(), 1 + upTo(random.nextInt(9) == 0 ? 998 : 5));
            case "give" -> args(upTo(many(0)), upTo(6) - 1);
            case "body" -> args(upTo(7));
            case "act" -> args(upTo(many(5)), upTo(3), random.nextInt(3) == 0 ? random.nextInt() : random.nextInt(100) - 50);
            case "trace" -> args(upTo(random.nextInt(3) == 0 ? 24 : many(6)));
            case "keep" -> args(upTo(5), upTo(many(5) + 1) - 1);
            case "row" -> args(upTo(5), upTo(4), random.nextInt(9) == 0 ? -1 - random.nextInt(3) : upTo(random.nextInt(3) == 0 ? 60 : 8));
            case "put" -> new Object[] {upTo(5), upTo(12), value()};
            case "element" -> args(upTo(5), upTo(12));
            case "shift" -> args(upTo(5), upTo(6), upTo(5), upTo(6), upTo(6));
            case "taken" -> args(upTo(5), upTo(7));
            case "count" -> args(upTo(6));
            case "bestCry" -> args(upTo(many(2)), upTo(1));
            case "buy" -> args(upTo(5), upTo(999) / (1 + random.nextInt(20)), upTo(1));
            case "sellOff" -> args(upTo(5), upTo(1));
            case "whoseCry" -> args(upTo(5), 100 * upTo(5) + 10 * upTo(3) + random.nextInt(10), upTo(1));
            case "drawn" -> args(random.nextInt(), 100 * (1 + upTo(2)) + 1 + upTo(19), upTo(1), upTo(5));
            default -> args();
        };
    }

    private static Object[] args(int... values) {
        return Arrays.stream(values).boxed().toArray();
    }

    /** Close together, so that cries count for falls. */
    private int minute() {
        return random.nextInt(9) == 0 ? upTo(999) : upTo(25);
    }

    private long value() {
        return switch (random.nextInt(4)) {
            case 0 -> random.nextLong();
            case 1 -> random.nextInt();
            default -> random.nextInt(30) - 5;
        };
    }

    private Object[] mended() {
        int what = random.nextInt(4) == 0 ? 4 : upTo(13);
        int[] most = {19, 19, 20, 20, 5, 99, 19, 19, 30, 3, 5, 30, 3, 9};
        int v = what < 0 || what > 13 ? 0 : what == 4 ? upTo(6) - 1 : upTo(most[what]);
        return args(upTo(many(what < 6 ? 0 : what < 10 ? 1 : 2)), what, v);
    }

    private void tape() {
        for (int i = 0; i < 60; i++) {
            make("feed", (int) SIGNS.charAt(random.nextInt(SIGNS.length())));
        }
    }

    private void tellLaw() {
        String text = LAWS[random.nextInt(LAWS.length)];
        for (int i = 0; i < text.length(); i++) {
            make("feed", (int) text.charAt(i));
        }
        make("law");
    }

    /** A row of bytes or shorts on some shelf, and what is asked of it. */
    private void rows(String call, int sort, int[] row, int whats) {
        int shelf = random.nextInt(6);
        make("row", shelf, sort, row.length);
        for (int i = 0; i < row.length; i++) {
            make("put", shelf, i, (long) row[i]);
        }
        for (int what = 0; what < whats; what++) {
            make(call, shelf, what);
        }
        if (call.equals("judge")) {
            make(call, shelf);
            if (random.nextInt(9) == 0) {
                make("whoseCry", shelf, 100 * random.nextInt(6) + 10 * random.nextInt(4) + random.nextInt(10), random.nextInt(2));
            }
        }
        if (call.equals("falls")) {
            make(call, shelf, random.nextInt(4), 1 + random.nextInt(4));
        }
    }

    private int[] seen() {
        int[] row = new int[4 * random.nextInt(3) + (random.nextInt(9) == 0 ? 1 : 0)];
        for (int i = 0; i + 3 < row.length; i += 4) {
            row[i] = upTo(19);
            row[i + 1] = upTo(19);
            row[i + 2] = random.nextInt(5) - 2;
            row[i + 3] = random.nextInt(5) - 2;
        }
        return row;
    }

    private int[] heard() {
        int[] row = new int[3 * random.nextInt(3) + (random.nextInt(9) == 0 ? 1 : 0)];
        for (int i = 0; i + 2 < row.length; i += 3) {
            row[i] = upTo(19);
            row[i + 1] = upTo(19);
            row[i + 2] = upTo(20);
        }
        return row;
    }

    private int[] year() {
        int[] row = new int[Math.min(4, m.count(1)) + (random.nextInt(9) == 0 ? 1 : 0)];
        for (int fall = 0; fall < row.length; fall++) {
            row[fall] = fall >= m.count(1) || random.nextInt(9) == 0 ? random.nextInt(9) - 2 : m.land.paidAlone(fall);
        }
        return row;
    }

    private int[] fallen() {
        int[] row = new int[random.nextInt(13)];
        for (int i = 0; i < row.length; i++) {
            row[i] = i % 3 == 2 ? minute() : upTo(19);
        }
        return row;
    }
}
