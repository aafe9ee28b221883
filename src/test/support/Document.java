import java.io.IOException;
import java.nio.file.Files;
import java.nio.file.Path;
import java.util.ArrayList;
import java.util.List;

/**
 * The document, cut into quotes: each has a test of its own, and the quotes of a file, one behind
 * the other, must be all that the document says from one heading to another.
 */
final class Document {
    private static final Path FILE = Path.of("../shared/DOC.md");

    private final List<String> quotes = new ArrayList<>();
    private String where = "";

    /** The quotes that follow stand here. */
    void at(String place) {
        where = place;
    }

    void says(String quote, Runnable body) {
        quotes.add(quote);
        Check.test(where + ", \"" + quote + "\"", body);
    }

    /** No word of the document from one heading to the other is without a test. */
    void wasAllSaid(String from, String to) {
        if (!Files.isReadable(FILE)) {
            System.out.println(FILE + " is not there: its words are not compared with the tests");
            return;
        }
        Check.test("every sentence from \"" + from + "\" to \"" + to + "\" has a test", () -> compare(from, to));
    }

    private void compare(String from, String to) {
        String due = bare(from, to);
        String got = String.join("", quotes).replaceAll("\\s", "");
        int same = 0;
        while (same < due.length() && same < got.length() && due.charAt(same) == got.charAt(same)) {
            same++;
        }
        if (same < due.length() || same < got.length()) {
            Check.wrong("the document goes on \"" + piece(due, same) + "\", the tests \"" + piece(got, same) + "\"");
        }
    }

    private static String piece(String text, int from) {
        return text.substring(from, Math.min(text.length(), from + 60));
    }

    /** The document's words without blanks, headings, the face (FaceAndRules has it) and signatures. */
    private static String bare(String from, String to) {
        String text;
        try {
            text = Files.readString(FILE);
        } catch (IOException gone) {
            throw new IllegalStateException(gone);
        }
        int start = text.indexOf(from);
        int end = text.indexOf(to);
        if (start < 0 || end < start) {
            throw new IllegalStateException("no such headings");
        }
        return text.substring(start, end)
            .replaceAll("(?s)```java.*?```", "")
            .replaceAll("```(text)?", "")
            .replaceAll("(?m)^#.*$", "")
            .replaceAll("(?m)^`[^`]*\\)`:", "")
            .replaceAll("\\s", "");
    }
}
