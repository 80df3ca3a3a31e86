import java.io.IOException;
import java.nio.file.Files;
import java.nio.file.Path;

/**
 * Tests by the document's own sentences: what is looked at belongs to the sentence quoted last.
 * A quote that does not stand in the document, or behind which nothing is looked at, is a fault of the test.
 */
final class Sentences {
    private static final Path DOCUMENT = Path.of("../shared/DOC.md");
    private static final int PROMISES = 28;

    private final Check check;
    private final String document = read();
    private final boolean[] quoted = new boolean[PROMISES + 1];
    private String sentence = "";
    private int looks = 1;

    Sentences(String name) {
        check = new Check(name);
    }

    /** Quotes a sentence of the Terms. */
    void says(String words) {
        endSentence();
        sentence = words;
        check.holds("it stands in the document: " + words, document.isEmpty() || document.contains(words));
    }

    /** Quotes a sentence of a promise. */
    void promise(int number, String words) {
        endSentence();
        sentence = "promise " + number + ": " + words;
        quoted[number] = true;
        check.holds("it stands in the document: " + sentence, document.isEmpty() || ofPromise(number).contains(words));
    }

    void due(String call, long got, long want) {
        looks++;
        check.due("[" + sentence + "] " + call, got, want);
    }

    void holds(String what, boolean so) {
        looks++;
        check.holds("[" + sentence + "] " + what, so);
    }

    /** Ends the test, in which these promises have to be quoted. */
    void end(int firstPromise, int lastPromise) {
        endSentence();
        for (int number = firstPromise; number <= lastPromise; number++) {
            check.holds("promise " + number + " is quoted", quoted[number]);
        }
        check.end();
    }

    private void endSentence() {
        check.holds("something is looked at for: " + sentence, looks > 0);
        looks = 0;
    }

    private String ofPromise(int number) {
        int from = document.indexOf("## Promise " + number + ":");
        int to = from < 0 ? -1 : document.indexOf("## ", from + 3);
        return from < 0 ? "" : document.substring(from, to < 0 ? document.length() : to);
    }

    private static String read() {
        try {
            return Files.exists(DOCUMENT) ? Files.readString(DOCUMENT) : "";
        } catch (IOException e) {
            return "";
        }
    }
}
