import java.io.IOException;
import java.lang.reflect.Constructor;
import java.lang.reflect.Field;
import java.lang.reflect.Method;
import java.lang.reflect.Modifier;
import java.nio.file.Files;
import java.nio.file.Path;
import java.util.ArrayList;
import java.util.Arrays;
import java.util.List;
import java.util.Set;
import java.util.TreeSet;
import java.util.regex.Matcher;
import java.util.regex.Pattern;
import java.util.stream.Collectors;

/** The rules of LANGUAGE.md that can be seen from the source's text or its classes, and the face of the document. */
public final class LanguageTest {
    private static final Due DUE = new Due("LanguageTest");

    public static void main(String[] args) throws IOException {
        String source = Files.readString(Path.of("src/main/java/FellInField.java"));
        String code = source.replaceAll("(?s)/\\*.*?\\*/", "").replaceAll("//[^\n]*", "").replaceAll("'(\\\\.|[^'\\\\])'", "' '");
        words(code);
        methods(code);
        classes(code);
        face(Files.readString(Path.of("../shared/DOC.md")));
        DUE.end();
    }

    private static void words(String code) {
        for (String word : new String[] {"throw", "throws", "try", "catch", "synchronized", "assert", "package", "native", "volatile",
            "transient", "protected", "Object", "Exception", "equals", "hashCode", "toString", "double", "float", "yield", "var"}) {
            DUE.is("the word " + word, count(code, "\\b" + word + "\\b"), 0);
        }
        DUE.is("lambdas, arrows", count(code, "->"), 0);
        DUE.is("method references", count(code, "::"), 0);
        DUE.is("strings", count(code, "\""), 0);
        DUE.is("annotations", count(code, "@"), 0);
        DUE.is("imports", count(code, "import "), count(code, "import java\\.util\\.Arrays;"));
        DUE.is("static blocks", count(code, "static\\s*\\{"), 0);
        DUE.is("library", count(code, "\\b(Math|Integer|Long|System|Arrays)\\.(?!(abs|min|max|bitCount|MIN_VALUE|arraycopy|fill)\\b)\\w"), 0);
        DUE.is("signs beyond 127", code.chars().filter(c -> c > 127).count(), 0);
        DUE.is("statics that are not final", count(code, "(?m)^\\s*(private |public )?static (?!final|\\w+(\\[\\])* \\w+\\()"), 0);
        DUE.is("public things", count(code, "\\bpublic\\b"), 46);
    }

    /** Methods of at most 60 lines and 7 parameters, none private with the name of a public one. */
    private static void methods(String code) {
        Pattern head = Pattern.compile("(?m)^( +)((?:private |public |static )*)(?:[\\w\\[\\]]+ )?(\\w+)\\(([^)]*)\\) \\{$");
        Matcher m = head.matcher(code);
        Set<String> open = new TreeSet<>();
        List<String> closed = new ArrayList<>();
        while (m.find()) {
            if (Set.of("if", "for", "while", "switch").contains(m.group(3)) || code.substring(0, m.start()).endsWith("} else ")) {
                continue;
            }
            int end = code.indexOf("\n" + m.group(1) + "}", m.start());
            DUE.holds(m.group(3) + " has at most 60 lines", count(code.substring(m.start(), end), "\n") < 60);
            DUE.holds(m.group(3) + " takes at most 7", m.group(4).isEmpty() || m.group(4).split(",").length <= 7);
            if (m.group(2).contains("public")) {
                open.add(m.group(3));
            } else {
                closed.add(m.group(3));
            }
        }
        closed.retainAll(open);
        closed.removeAll(Set.of("FellInField"));
        DUE.is("private methods with a public one's name " + closed, closed.size(), 0);
    }

    private static void classes(String code) {
        Class<?>[] inside = FellInField.class.getDeclaredClasses();
        DUE.holds("at most twelve classes", inside.length + 1 <= 12);
        DUE.is("classes", count(code, "\\bclass\\b"), inside.length + 1);
        List<Class<?>> all = new ArrayList<>(List.of(inside));
        all.add(FellInField.class);
        for (Class<?> c : all) {
            DUE.holds(c + " is final", Modifier.isFinal(c.getModifiers()));
            DUE.holds(c + " is static", c == FellInField.class || Modifier.isStatic(c.getModifiers()));
            DUE.holds(c + " extends nothing", c.getSuperclass() == Object.class);
            long fields = Arrays.stream(c.getDeclaredFields()).filter(f -> !Modifier.isStatic(f.getModifiers())).count();
            DUE.holds(c + " has at most 20 fields", fields <= 20);
            for (Field f : c.getDeclaredFields()) {
                DUE.holds(f + " is final if static", !Modifier.isStatic(f.getModifiers()) || Modifier.isFinal(f.getModifiers()));
            }
        }
        for (Constructor<?> c : FellInField.class.getDeclaredConstructors()) {
            DUE.holds("the constructor", Modifier.isPublic(c.getModifiers()) && c.getParameterCount() == 0);
        }
    }

    private static void face(String document) {
        Set<String> due = new TreeSet<>();
        Matcher m = Pattern.compile("(?m)^    public (int|long) (\\w+)\\(([^)]*)\\);").matcher(document);
        while (m.find()) {
            String types = m.group(3).isEmpty() ? ""
                    : Arrays.stream(m.group(3).split(", ")).map(p -> p.split(" ")[0]).collect(Collectors.joining(","));
            due.add(m.group(1) + " " + m.group(2) + "(" + types + ")");
        }
        Set<String> is = new TreeSet<>();
        for (Method method : FellInField.class.getDeclaredMethods()) {
            if (!Modifier.isPrivate(method.getModifiers())) {
                String types = Arrays.stream(method.getParameterTypes()).map(Class::getName).collect(Collectors.joining(","));
                is.add(method.getReturnType().getName() + " " + method.getName() + "(" + types + ")");
            }
        }
        DUE.is("methods of the document", due.size(), 43);
        DUE.holds("the face " + is + " is " + due, is.equals(due));
        Set<String> constants = new TreeSet<>();
        for (Field f : FellInField.class.getDeclaredFields()) {
            if (!Modifier.isPrivate(f.getModifiers())) {
                constants.add(f.getName());
            }
        }
        DUE.holds("constants " + constants, constants.equals(Set.of("BAD", "NOT", "FULL", "STATE", "VOID")));
    }

    private static long count(String code, String pattern) {
        return Pattern.compile(pattern).matcher(code).results().count();
    }
}
