import java.lang.reflect.InvocationTargetException;
import java.lang.reflect.Method;
import java.util.HashMap;
import java.util.Map;
import java.util.Set;

/** A call told as a text, such as "field(42, 505)"; MIN, MAX, LONG_MIN and LONG_MAX stand for the numbers of that name. */
final class Call {
    /** The calls that may change something; all others only ask. */
    static final Set<String> DOES = Set.of("field", "fall", "falls", "cry", "mend", "feed", "law", "find", "pay", "give", "image", "back",
            "undo", "redo", "body", "act", "keep", "row", "put", "shift");
    private static final Map<String, Method> METHODS = methods();
    private static final Map<String, Call> KNOWN = new HashMap<>();

    final String text;
    final String name;
    private final Method method;
    private final Object[] arguments;

    private Call(String text) {
        this.text = text;
        int open = text.indexOf('(');
        name = text.substring(0, open);
        method = METHODS.get(name);
        String inside = text.substring(open + 1, text.length() - 1);
        String[] told = inside.isEmpty() ? new String[0] : inside.split(", ");
        if (method == null || told.length != method.getParameterCount()) {
            throw new IllegalArgumentException("no such call: " + text);
        }
        arguments = new Object[told.length];
        for (int i = 0; i < told.length; i++) {
            long v = number(told[i]);
            if (method.getParameterTypes()[i] == long.class) {
                arguments[i] = v;
            } else {
                arguments[i] = Math.toIntExact(v);
            }
        }
    }

    private static Map<String, Method> methods() {
        Map<String, Method> methods = new HashMap<>();
        for (Method m : FellInField.class.getDeclaredMethods()) {
            methods.put(m.getName(), m);
        }
        return methods;
    }

    private static long number(String told) {
        return switch (told) {
            case "MIN" -> Integer.MIN_VALUE;
            case "MAX" -> Integer.MAX_VALUE;
            case "LONG_MIN" -> Long.MIN_VALUE;
            case "LONG_MAX" -> Long.MAX_VALUE;
            default -> Long.parseLong(told);
        };
    }

    static Call of(String text) {
        return KNOWN.computeIfAbsent(text, Call::new);
    }

    static Call of(String name, Object... arguments) {
        StringBuilder b = new StringBuilder(name).append('(');
        for (int i = 0; i < arguments.length; i++) {
            b.append(i == 0 ? "" : ", ").append(arguments[i]);
        }
        return of(b.append(')').toString());
    }

    boolean does() {
        return DOES.contains(name);
    }

    long on(FellInField x) {
        try {
            return ((Number) method.invoke(x, arguments)).longValue();
        } catch (InvocationTargetException e) {
            throw new AssertionError(text + " threw", e.getCause());
        } catch (IllegalAccessException e) {
            throw new AssertionError(text + " is not public", e);
        }
    }
}
