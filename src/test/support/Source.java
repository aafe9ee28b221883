import java.io.IOException;
import java.nio.file.Files;
import java.nio.file.Path;

/** The file of the class, as text. */
final class Source {
    private Source() {
    }

    static String text() {
        try {
            return Files.readString(Path.of("src/main/java/KeyFingers.java"));
        } catch (IOException gone) {
            throw new IllegalStateException(gone);
        }
    }

    static String withoutComments() {
        return text().replaceAll("(?s)/\\*.*?\\*/", "").replaceAll("//[^\n]*", "");
    }

    /** The file says the title, then has just these public calls, up to the next title. */
    static void hasPart(String title, String... calls) {
        String text = text();
        int start = text.indexOf("// " + title + "\n");
        if (start < 0) {
            Check.wrong("the file does not say it");
            return;
        }
        int end = text.indexOf("// ----", start + 1);
        String part = text.substring(start, end < 0 ? text.length() : end);
        int from = 0;
        for (String call : calls) {
            int found = part.indexOf("public int " + call + "(", from);
            if (found < 0) {
                Check.wrong(call + " does not stand there in its order");
                return;
            }
            from = found + 1;
        }
        Check.due("how many calls stand there", part.split("public int ", -1).length - 1, calls.length);
    }
}
