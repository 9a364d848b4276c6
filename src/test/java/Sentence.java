import java.io.IOException;
import java.io.UncheckedIOException;
import java.nio.file.Files;
import java.nio.file.Path;

/** The sentences of the document that have a test of their own: what is wrong is told with the sentence. */
final class Sentence {
    private static final Path DOC = Path.of("../shared/DOC.md");
    private static final String DOCUMENT = document();

    private static String latest = "";
    private static int askedBefore = 0;
    private static int many = 0;

    private Sentence() {
    }

    /** From here on, up to the next one, this sentence is tested; it must stand in the document as it is quoted. */
    static void is(String quote) {
        closeLatest();
        Check.about(quote);
        if (!DOCUMENT.isEmpty()) {
            Check.due("a sentence that stands in DOC.md", DOCUMENT.contains(quote), true);
        }
        latest = quote;
        askedBefore = Check.asked();
        many++;
    }

    static void end(String test) {
        closeLatest();
        System.out.println(test + ": " + many + " sentences");
        Check.end(test);
    }

    private static void closeLatest() {
        if (!latest.isEmpty()) {
            Check.due("a sentence with a test of its own", Check.asked() > askedBefore, true);
        }
    }

    private static String document() {
        try {
            return Files.exists(DOC) ? Files.readString(DOC).replaceAll("\\s+", " ") : "";
        } catch (IOException unread) {
            throw new UncheckedIOException(unread);
        }
    }
}
