import java.io.IOException;
import java.nio.file.DirectoryStream;
import java.nio.file.Files;
import java.nio.file.Path;
import java.util.regex.Matcher;
import java.util.regex.Pattern;

/** README.md's examples answer as they say, and it tells of every call, every argument of several numbers, every answer and every test. */
public final class ReadmeTest {
    private static final Due DUE = new Due("ReadmeTest");
    private static final Pattern BLOCK = Pattern.compile("```java\n(.*?)```", Pattern.DOTALL);
    private static final Pattern CALL = Pattern.compile("night\\.(\\w+\\([^)]*\\)); +// (-?\\d+)(:.*)?");
    private static final Pattern FED = Pattern.compile("for \\(char c : \"(.*)\"\\.toCharArray\\(\\)\\) \\{");

    public static void main(String[] args) throws IOException {
        String readme = Files.readString(Path.of("README.md"));
        examples(readme);
        names(readme);
        answers(readme);
        tests(readme);
        DUE.end();
    }

    private static void examples(String readme) {
        Run night = new Run(DUE);
        Matcher block = BLOCK.matcher(readme);
        int calls = 0;
        while (block.find()) {
            for (String line : block.group(1).split("\n")) {
                Matcher call = CALL.matcher(line);
                Matcher fed = FED.matcher(line);
                if (call.matches()) {
                    calls++;
                    night.is(withoutLetters(call.group(1)), Long.parseLong(call.group(2)));
                } else if (fed.matches()) {
                    night.tape(fed.group(1));
                } else {
                    DUE.holds("known line: " + line, line.equals("FellInField night = new FellInField();")
                            || line.equals("    night.feed(c);") || line.equals("}"));
                }
            }
        }
        DUE.holds("examples", calls > 20);
    }

    /** A call's text holds numbers alone: 'd' is put by its number. */
    private static String withoutLetters(String call) {
        int at = call.indexOf('\'');
        return at < 0 ? call : call.substring(0, at) + (int) call.charAt(at + 1) + call.substring(at + 3);
    }

    private static void names(String readme) {
        Matcher m = Pattern.compile("(?m)^    public (?:int|long) (\\w+)\\(([^)]*)\\);").matcher(Due.document());
        int methods = 0;
        while (m.find()) {
            methods++;
            DUE.holds("tells of " + m.group(1), readme.contains("`" + m.group(1) + "`"));
            for (String several : new String[] {"xy", "wd", "ab", "fc", "wl", "nm"}) {
                if (m.group(2).matches(".*\\bint " + several + "\\b.*")) {
                    DUE.holds("tells what " + several + " holds", readme.contains("| `" + several + "` | "));
                }
            }
        }
        DUE.is("methods", methods, 43);
    }

    private static void answers(String readme) {
        String[] rows = {"| -1 | `BAD` |", "| -2 | `NOT` |", "| -3 | `FULL` |", "| -5 | `STATE` |", "| -11 |", "| -12 |", "| -13 |",
            "| -14 |", "| -2000000000 | `VOID` |", "| `Long.MIN_VALUE` |"};
        for (String row : rows) {
            DUE.holds("tells the answer " + row, readme.contains("\n" + row));
        }
        DUE.holds("tells for how many calls", readme.contains("at most " + Run.MOST_CALLS + " calls"));
        DUE.holds("so does the document", Due.document().contains("at most " + Run.MOST_CALLS + " calls"));
        DUE.holds("tells how the tests are run", readme.contains("\n    .ci/run\n"));
    }

    private static void tests(String readme) throws IOException {
        try (DirectoryStream<Path> tests = Files.newDirectoryStream(Path.of("src/test/java"), "*Test.java")) {
            for (Path test : tests) {
                String name = test.getFileName().toString().replace(".java", "");
                DUE.holds("tells of " + name, readme.contains("| " + name + " | "));
            }
        }
    }
}
