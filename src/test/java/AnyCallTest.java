import java.lang.reflect.Method;
import java.lang.reflect.Modifier;
import java.util.ArrayList;
import java.util.Comparator;
import java.util.List;
import java.util.Random;
import java.util.Set;

/** Any calls with any arguments: none throws, and what only asks or is refused changes nothing. */
public final class AnyCallTest {
    private static final Due DUE = new Due("AnyCallTest");
    private static final Set<String> DOES = Set.of("field", "fall", "falls", "cry", "mend", "feed", "law", "find", "pay", "give", "image",
            "back", "undo", "redo", "body", "act", "keep", "row", "put", "shift");
    private static final Set<String> VOIDS = Set.of("mend", "give");
    private static final int[] EDGES = {Integer.MIN_VALUE, Integer.MIN_VALUE + 1, -2000000000, -101, -100, -17, -12, -11, -7, -1, 0, 1, 2,
        5, 6, 7, 8, 9, 10, 12, 13, 14, 15, 19, 20, 40, 48, 49, 50, 55, 59, 60, 61, 99, 100, 101, 120, 155, 255, 256, 399, 400, 505, 911,
        999, 1000, 1313, 2020, 2021, 3020, Integer.MAX_VALUE - 1, Integer.MAX_VALUE};

    public static void main(String[] args) throws ReflectiveOperationException {
        List<Method> methods = new ArrayList<>();
        for (Method m : FellInField.class.getDeclaredMethods()) {
            if (Modifier.isPublic(m.getModifiers())) {
                methods.add(m);
            }
        }
        methods.sort(Comparator.comparing(Method::getName));
        DUE.is("methods", methods.size(), 43);
        for (int run = 0; run < 60; run++) {
            calls(new Random(run), methods);
        }
        DUE.end();
    }

    private static void calls(Random random, List<Method> methods) throws ReflectiveOperationException {
        FellInField x = new FellInField();
        long before = digest(x);
        for (int call = 0; call < 512; call++) {
            if (random.nextInt(4) == 0) {
                sensible(x, random);
                before = digest(x);
            }
            Method method = methods.get(random.nextInt(methods.size()));
            Object[] arguments = arguments(method, random);
            long answer = ((Number) method.invoke(x, arguments)).longValue();
            long after = method.getName().equals("act") ? before : digest(x);
            boolean refused = VOIDS.contains(method.getName()) ? answer == -2000000000 : answer < 0 && answer > -100;
            if (!DOES.contains(method.getName()) || refused) {
                DUE.is(method.getName() + " changed nothing", after, before);
            }
            before = digest(x);
        }
    }

    private static Object[] arguments(Method method, Random random) {
        Object[] arguments = new Object[method.getParameterCount()];
        int small = 1 + random.nextInt(12);
        for (int i = 0; i < arguments.length; i++) {
            int v = switch (random.nextInt(4)) {
                case 0 -> EDGES[random.nextInt(EDGES.length)];
                case 1 -> random.nextInt();
                default -> random.nextInt(small);
            };
            arguments[i] = method.getParameterTypes()[i] == long.class ? (Object) (long) v : (Object) v;
        }
        return arguments;
    }

    private static void sensible(FellInField x, Random random) {
        switch (random.nextInt(9)) {
            case 0 -> x.field(random.nextInt(400), 101 + random.nextInt(19) + 100 * random.nextInt(20));
            case 1 -> x.fall(random.nextInt(400), random.nextInt(30));
            case 2 -> x.cry(random.nextInt(6), random.nextInt(30));
            case 3 -> x.mend(random.nextInt(8), 4, random.nextInt(6));
            case 4 -> x.row(random.nextInt(6), random.nextInt(5), random.nextInt(61));
            case 5 -> x.put(random.nextInt(6), random.nextInt(20), random.nextInt(20));
            case 6 -> Due.tell(x, random.nextBoolean() ? "l-d/2+s" : "d<l?9;h");
            case 7 -> x.mend(random.nextInt(12), 6 + random.nextInt(8), random.nextInt(10));
            default -> x.keep(random.nextInt(6), x.body(random.nextInt(8)));
        }
    }

    /** All that the plain questions tell, without the latest act and its trace. */
    private static long digest(FellInField x) {
        long d = 17;
        for (int what = 0; what <= 6; what++) {
            d = 31 * d + x.count(what);
        }
        for (int what = 0; what <= 14; what++) {
            for (int number = 0; number < 12; number++) {
                d = 31 * d + x.of(number, what);
            }
        }
        for (int shelf = 0; shelf < 6; shelf++) {
            d = 31 * d + x.taken(shelf, 0);
            for (int i = 0; i < 60; i++) {
                d = 31 * d + x.element(shelf, i);
            }
        }
        for (int what = 0; what < 156; what++) {
            d = 31 * d + x.led(what);
        }
        for (int fc = 0; fc < 912; fc++) {
            d = 31 * d + x.counts(fc);
        }
        for (int i = 0; i < 24; i++) {
            d = 31 * d + x.trace(i);
        }
        return d;
    }
}
