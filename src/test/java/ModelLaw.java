import java.util.ArrayDeque;
import java.util.Deque;
import java.util.Map;
import java.util.regex.Pattern;

/** A law's text, told by patterns and worked out by cutting it at its loosest sign. */
final class ModelLaw {
    private static final String O = "[!-]*o";
    private static final String P = O + "(?:[*/%]" + O + ")*";
    private static final String S = P + "(?:[+-]" + P + ")*";
    private static final String B = S + "(?:[<=>]" + S + ")?";
    private static final String A = B + "(?:&" + B + ")*";
    private static final String E = A + "(?:\\|" + A + ")*";
    private static final String LINE = E + "(?:\\?" + E + ")?";
    private static final Pattern TEXT = Pattern.compile(LINE + "(?:;" + LINE + ")*");
    private static final Pattern INNERMOST = Pattern.compile("\\(" + E + "\\)");

    private ModelLaw() {
    }

    static int fault(String text) {
        for (int length = 1; length <= text.length(); length++) {
            if (!goesOn(text.substring(0, length))) {
                return length - 1;
            }
        }
        return isText(text) ? -1 : text.length();
    }

    private static boolean goesOn(String start) {
        for (String operand : new String[] {"", "1"}) {
            for (int closed = 0; closed <= 6; closed++) {
                if (isText(start + operand + ")".repeat(closed))) {
                    return true;
                }
            }
        }
        return false;
    }

    private static boolean isText(String text) {
        if (text.indexOf('o') >= 0 || mostOpen(text) > 6) {
            return false;
        }
        String left = text.replaceAll("(?<![0-9])[0-9]{1,4}(?![0-9])|[dwklhs]", "o");
        String before = "";
        while (!left.equals(before)) {
            before = left;
            left = INNERMOST.matcher(left).replaceFirst("o");
        }
        return TEXT.matcher(left).matches();
    }

    private static int mostOpen(String text) {
        Deque<Character> open = new ArrayDeque<>();
        int most = 0;
        for (int i = 0; i < text.length(); i++) {
            char c = text.charAt(i);
            if (c == '(' || c == '!' || c == '-' && !endsOperand(text, i - 1)) {
                open.push(c);
                most = Math.max(most, open.size());
            }
            if (c == ')') {
                while (!open.isEmpty() && open.peek() != '(') {
                    open.pop();
                }
                open.poll();
            }
            if (endsOperand(text, i) && !(Character.isDigit(c) && i + 1 < text.length() && Character.isDigit(text.charAt(i + 1)))) {
                while (!open.isEmpty() && open.peek() != '(') {
                    open.pop();
                }
            }
        }
        return most;
    }

    private static boolean endsOperand(String text, int i) {
        return i >= 0 && "0123456789dwklhs)".indexOf(text.charAt(i)) >= 0;
    }

    static int counts(String text, Map<Character, Integer> names) {
        for (String line : text.split(";")) {
            int at = line.indexOf('?');
            if (at < 0) {
                return value(line, names);
            }
            if (value(line.substring(0, at), names) != 0) {
                return value(line.substring(at + 1), names);
            }
        }
        return 0;
    }

    private static int value(String e, Map<Character, Integer> names) {
        for (String signs : new String[] {"|", "&", "<=>", "+-", "*/%"}) {
            int at = lastOutside(e, signs);
            if (at >= 0) {
                return ofTwo(e.charAt(at), value(e.substring(0, at), names), value(e.substring(at + 1), names));
            }
        }
        char first = e.charAt(0);
        if (first == '!') {
            return value(e.substring(1), names) == 0 ? 1 : 0;
        }
        if (first == '-') {
            return -value(e.substring(1), names);
        }
        if (first == '(') {
            return value(e.substring(1, e.length() - 1), names);
        }
        return names.containsKey(first) ? names.get(first) : Integer.parseInt(e);
    }

    /** The last of the signs between two operands that no bracket holds. */
    private static int lastOutside(String e, String signs) {
        int depth = 0;
        for (int i = e.length() - 1; i >= 0; i--) {
            char c = e.charAt(i);
            depth += c == ')' ? 1 : c == '(' ? -1 : 0;
            if (depth == 0 && signs.indexOf(c) >= 0 && endsOperand(e, i - 1)) {
                return i;
            }
        }
        return -1;
    }

    private static int ofTwo(char sign, int a, int b) {
        return switch (sign) {
            case '|' -> a != 0 | b != 0 ? 1 : 0;
            case '&' -> a != 0 & b != 0 ? 1 : 0;
            case '<' -> a < b ? 1 : 0;
            case '=' -> a == b ? 1 : 0;
            case '>' -> a > b ? 1 : 0;
            case '+' -> (int) ((long) a + b);
            case '-' -> (int) ((long) a - b);
            case '*' -> (int) ((long) a * b);
            case '/' -> b == 0 ? 0 : (int) ((long) a / b);
            default -> b == 0 ? 0 : (int) ((long) a % b);
        };
    }
}
