import java.io.IOException;
import java.io.UncheckedIOException;
import java.nio.file.Files;
import java.nio.file.Path;

/** What a test compares: prints every answer that is not as due, and ends with 1 if there was one. */
final class Due {
    private static final int MOST_PRINTED = 200;

    private final String test;
    private String sentence = "";
    private int wrong;
    private int compared;

    Due(String test) {
        this.test = test;
    }

    static String document() {
        try {
            return Files.readString(Path.of("../shared/DOC.md"));
        } catch (IOException e) {
            throw new UncheckedIOException(e);
        }
    }

    /** What follows tests this sentence of the document, which must stand there word by word. */
    void says(String told) {
        sentence = "";
        holds("the document says: " + told, document().contains(told));
        sentence = " (" + told + ")";
    }

    void is(String call, long got, long want) {
        compared++;
        if (got != want) {
            wrong++;
            if (wrong <= MOST_PRINTED) {
                System.out.println(test + ": " + call + " answered " + got + ", due is " + want + sentence);
            }
        }
    }

    void holds(String what, boolean so) {
        is(what, so ? 1 : 0, 1);
    }

    void end() {
        System.out.println(test + ": " + compared + " compared, " + wrong + " wrong");
        if (wrong != 0 || compared == 0) {
            System.exit(1);
        }
    }

    static int tell(FellInField x, String text) {
        for (int i = 0; i < text.length(); i++) {
            x.feed(text.charAt(i));
        }
        return x.law();
    }

    static void fill(FellInField x, int shelf, int sort, long... elements) {
        x.row(shelf, sort, elements.length);
        for (int i = 0; i < elements.length; i++) {
            x.put(shelf, i, elements[i]);
        }
    }
}
