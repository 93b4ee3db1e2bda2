import java.lang.reflect.Method;
import java.lang.reflect.Modifier;
import java.util.ArrayList;
import java.util.Comparator;
import java.util.List;
import java.util.Random;
import java.util.Set;

/** Any calls with any arguments: none throws, and what only asks or is refused changes nothing. */
public final class AnyCallTest {
    private static final Due DUE = new Due("AnyCallTest");
    private static final Set<String> VOIDS = Set.of("mend", "give");
    private static final int[] EDGES = {Integer.MIN_VALUE, Integer.MIN_VALUE + 1, -2000000000, -101, -100, -17, -12, -11, -7, -1, 0, 1, 2,
        5, 6, 7, 8, 9, 10, 12, 13, 14, 15, 19, 20, 40, 48, 49, 50, 55, 59, 60, 61, 99, 100, 101, 120, 155, 255, 256, 399, 400, 505, 911,
        999, 1000, 1313, 2020, 2021, 3020, Integer.MAX_VALUE - 1, Integer.MAX_VALUE};

    public static void main(String[] args) {
        List<Method> methods = new ArrayList<>();
        for (Method m : FellInField.class.getDeclaredMethods()) {
            if (Modifier.isPublic(m.getModifiers())) {
                methods.add(m);
            }
        }
        methods.sort(Comparator.comparing(Method::getName));
        DUE.is("methods", methods.size(), 43);
        for (int run = 0; run < 300; run++) {
            calls(new Random(run), methods);
        }
        for (int run = 0; run < 60; run++) {
            unchanged(new Random(1000 + run), methods);
        }
        DUE.end();
    }

    /** As many as an object is used for. */
    private static void calls(Random random, List<Method> methods) {
        FellInField x = new FellInField();
        for (int call = 0; call < Run.MOST_CALLS; call++) {
            Call next = random.nextInt(4) == 0 ? sensible(random) : any(random, methods);
            long answer = next.on(x);
            DUE.holds(next.text, next.name.equals("element") || answer >= Integer.MIN_VALUE);
        }
    }

    private static void unchanged(Random random, List<Method> methods) {
        Run run = new Run(DUE);
        for (int step = 0; step < 40; step++) {
            for (int i = random.nextInt(11); i > 0; i--) {
                run.make(sensible(random));
            }
            Call call = any(random, methods);
            long answer = new Run(run).make(call);
            boolean refused = VOIDS.contains(call.name) ? answer == -2000000000 : answer < 0 && answer > -100 && !call.name.equals("act");
            if (!call.does() || refused) {
                run.keeps(call.text, answer);
            } else {
                run.make(call);
            }
        }
    }

    private static Call any(Random random, List<Method> methods) {
        Method method = methods.get(random.nextInt(methods.size()));
        Object[] arguments = new Object[method.getParameterCount()];
        int small = 1 + random.nextInt(12);
        for (int i = 0; i < arguments.length; i++) {
            arguments[i] = switch (random.nextInt(4)) {
                case 0 -> EDGES[random.nextInt(EDGES.length)];
                case 1 -> random.nextInt();
                default -> random.nextInt(small);
            };
        }
        return arguments.length == 0 ? Call.of(method.getName() + "()") : Call.of(method.getName(), arguments);
    }

    private static Call sensible(Random random) {
        return switch (random.nextInt(14)) {
            case 0 -> Call.of("field", random.nextInt(400), 101 + random.nextInt(19) + 100 * random.nextInt(20));
            case 1 -> Call.of("fall", random.nextInt(400), random.nextInt(30));
            case 2 -> Call.of("cry", random.nextInt(6), random.nextInt(30));
            case 3 -> Call.of("mend", random.nextInt(8), 4, random.nextInt(6));
            case 4 -> Call.of("row", random.nextInt(6), random.nextInt(5), random.nextInt(61));
            case 5 -> Call.of("put", random.nextInt(6), random.nextInt(20), random.nextInt(20));
            case 6 -> Call.of("feed", (int) "l-d+9?;".charAt(random.nextInt(7)));
            case 7 -> Call.of("mend", random.nextInt(12), 6 + random.nextInt(8), random.nextInt(10));
            case 8 -> Call.of("body", random.nextInt(8));
            case 9 -> Call.of("keep", random.nextInt(6), random.nextInt(5) - 1);
            case 10 -> Call.of("find", random.nextInt(10));
            case 11 -> Call.of("give", random.nextInt(8), random.nextInt(7) - 1);
            case 12 -> Call.of(new String[] {"law()", "image()", "back()", "undo()", "redo()"}[random.nextInt(5)]);
            default -> Call.of("pay", 10 * random.nextInt(6) + random.nextInt(6), 1 + random.nextInt(6));
        };
    }
}
