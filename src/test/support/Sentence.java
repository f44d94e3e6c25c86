import java.io.IOException;
import java.nio.file.Files;
import java.nio.file.Path;

/** Names the promise and the sentence of ../shared/DOC.md that the answers after it are for. */
final class Sentence {
    static final String REFUSED_FIRST = "Refused, and nothing changes, the first of these: BAD (a number is not as told, or "
        + "there is no such thing), STATE (as told), FULL.";

    private static final int PROMISES = 20;
    private static final Path DOCUMENT = Path.of("../shared/DOC.md");

    private static final boolean[] named = new boolean[PROMISES + 1];
    private static String document = null;

    private Sentence() {
    }

    /** The words must stand in the document, under this promise or ahead of all promises. */
    static void of(int promise, String words) {
        named[promise] = true;
        Due.under("promise " + promise + ", \"" + words + "\": ");
        Due.holds("the document does not say this there", aheadOfAll().contains(words) || under(promise).contains(words));
    }

    /** Every one of these promises must have been named. */
    static void end(int first, int last) {
        Due.under("");
        for (int promise = first; promise <= last; promise++) {
            Due.holds("no test names promise " + promise, named[promise]);
        }
        Due.end();
    }

    private static String aheadOfAll() {
        return document().substring(0, startOf(1));
    }

    private static String under(int promise) {
        int end = promise == PROMISES ? document().indexOf("## Not promised") : startOf(promise + 1);
        return document().substring(startOf(promise), end);
    }

    private static int startOf(int promise) {
        return document().indexOf("## Promise " + promise + ":");
    }

    private static String document() {
        if (document == null) {
            try {
                document = Files.readString(DOCUMENT).replaceAll("\\s+", " ");
            } catch (IOException missing) {
                throw new IllegalStateException("the tests need " + DOCUMENT, missing);
            }
        }
        return document;
    }
}
