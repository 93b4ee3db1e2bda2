import java.io.IOException;
import java.nio.file.DirectoryStream;
import java.nio.file.Files;
import java.nio.file.Path;
import java.util.BitSet;
import java.util.TreeSet;
import java.util.Set;
import java.util.regex.Matcher;
import java.util.regex.Pattern;

/** Every promise, and every sentence of the terms that names a boundary, is quoted by an edge test: it has a test of its own. */
public final class SentencesTest {
    private static final Due DUE = new Due("SentencesTest");
    private static final Pattern QUOTE = Pattern.compile("\\.says\\((\"(?:[^\"\\\\]|\\\\.)*\"(?:\\s*\\+\\s*\"(?:[^\"\\\\]|\\\\.)*\")*)\\)");
    private static final Pattern BOUNDARY = Pattern.compile("-?\\d+ \\.\\. -?\\d+|at first|at most|of like ones|the least|the first|"
            + "[Nn]one|nobody|lacks|not both 0|\\b(?:FULL|STATE|NOT|BAD)\\b|wrap|cut|\\bonce\\b|-1[1-4]");

    public static void main(String[] args) throws IOException {
        String document = Due.document();
        Set<String> quotes = quotes();
        promises(document, quotes);
        boundaries(document, quotes);
        DUE.end();
    }

    private static Set<String> quotes() throws IOException {
        Set<String> quotes = new TreeSet<>();
        try (DirectoryStream<Path> tests = Files.newDirectoryStream(Path.of("src/test/java"), "Edge*Test.java")) {
            for (Path test : tests) {
                Matcher m = QUOTE.matcher(Files.readString(test));
                while (m.find()) {
                    quotes.add(m.group(1).replaceAll("\"\\s*\\+\\s*\"", "").replaceAll("^\"|\"$", ""));
                }
            }
        }
        return quotes;
    }

    private static void promises(String document, Set<String> quotes) {
        Matcher m = Pattern.compile("## Promise (\\d+): [^\n]*\n\n([^\n]*)\n").matcher(document);
        int promises = 0;
        while (m.find()) {
            promises++;
            String promise = m.group(2);
            DUE.holds("promise " + m.group(1) + " is quoted whole: " + promise, quotes.contains(promise));
        }
        DUE.is("promises", promises, 44);
    }

    private static void boundaries(String document, Set<String> quotes) {
        int from = document.indexOf("======== 1");
        int to = document.indexOf("Ahead of the calls");
        BitSet quoted = new BitSet();
        for (String quote : quotes) {
            for (int at = document.indexOf(quote); at >= 0; at = document.indexOf(quote, at + 1)) {
                quoted.set(at, at + quote.length());
            }
        }
        Matcher m = BOUNDARY.matcher(document).region(from, to);
        while (m.find()) {
            String around = document.substring(Math.max(from, m.start() - 60), Math.min(to, m.end() + 60)).replace('\n', ' ');
            DUE.holds("quoted: .. " + around + " ..", quoted.get(m.start()));
        }
    }
}
