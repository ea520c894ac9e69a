import java.io.IOException;
import java.io.UncheckedIOException;
import java.nio.file.Files;
import java.nio.file.Path;

/**
 * The words of the document, which the tests take up in their order: every sentence has a test of its own,
 * and a part of the document that is opened has no word without one. Run from the project's folder.
 */
final class Document {
    private static final Path FILE = Path.of("../shared/DOC.md");
    private static final String WORDS = read();
    private static String part = "";
    private static String left = "";

    private Document() {
    }

    private static String read() {
        try {
            String text = Files.readString(FILE).replaceAll("```[a-z]*", "");
            return text.replaceAll("\\s+", " ");
        } catch (IOException e) {
            throw new UncheckedIOException(e);
        }
    }

    /** The words after one mark and before another are the next to be taken up. */
    static void open(String from, String to) {
        close();
        int start = WORDS.indexOf(from);
        int end = WORDS.indexOf(to);
        boolean found = start >= 0 && end > start;
        part = from.split("`")[0].replace("## ", "").strip();
        Due.about(part);
        Due.holds("it stands in the document, and then " + to, found);
        left = found ? WORDS.substring(start + from.length(), end).strip() : "";
    }

    /** The next words, and the test that fails when they are broken. */
    static void says(String words, Runnable test) {
        Due.about(part + ", \"" + words + "\"");
        boolean next = left.startsWith(words);
        Due.holds("these words come next, and not " + left, next);
        left = next ? left.substring(words.length()).strip() : left;
        int before = Due.answers();
        Due.holds("nothing is thrown", ends(test));
        Due.holds("it is tested", Due.answers() > before + 1);
    }

    /** A call that throws breaks these words, and leaves the tests of the others to run. */
    private static boolean ends(Runnable test) {
        try {
            test.run();
            return true;
        } catch (RuntimeException e) {
            e.printStackTrace(System.out);
            return false;
        }
    }

    private static void close() {
        Due.holds("no words are without a test: " + left, left.isEmpty());
    }

    /** The last call of a test's main method. */
    static void end() {
        close();
        Due.end();
    }
}
