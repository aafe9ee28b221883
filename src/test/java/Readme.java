import java.io.IOException;
import java.nio.file.Files;
import java.nio.file.Path;
import java.util.regex.Matcher;
import java.util.regex.Pattern;

/** README.md tells how the class is used: its example must be true, its words the document's. */
public final class Readme {
    private static final Path DOCUMENT = Path.of("../shared/DOC.md");

    private static String read(Path file) {
        try {
            return Files.readString(file);
        } catch (IOException gone) {
            throw new IllegalStateException(gone);
        }
    }

    private static void example(String readme) {
        Matcher rows = Pattern.compile("(?m)^x\\.(\\w+)\\(([^)]*)\\); +// (-?\\d+)").matcher(readme);
        KeyFingers x = new KeyFingers();
        int seen = 0;
        while (rows.find()) {
            String inside = rows.group(2).trim();
            String[] texts = inside.isEmpty() ? new String[0] : inside.split(", *");
            int[] args = new int[texts.length];
            for (int a = 0; a < args.length; a++) {
                args[a] = Integer.parseInt(texts[a]);
            }
            Call call = new Call(rows.group(1), args);
            Check.due(call.toString(), call.ask(x), Integer.parseInt(rows.group(3)));
            seen++;
        }
        Check.due("rows of the example were read", seen > 20 ? 1 : 0, 1);
    }

    /** Each promise's sentences stand in the row of its call, in their order. */
    private static void words(String readme) {
        Matcher promises = Pattern.compile("(?m)^`int (\\w+)\\(([^)]*)\\)`: (.*)$").matcher(read(DOCUMENT));
        int seen = 0;
        while (promises.find()) {
            String call = "| `" + promises.group(1) + "(" + promises.group(2).replace("int ", "") + ")` |";
            int row = readme.indexOf(call);
            if (row < 0) {
                Check.wrong("no row " + call);
                continue;
            }
            String told = readme.substring(row + call.length(), readme.indexOf('\n', row));
            String said = told.replaceAll("\\| none \\|$", "").replace("|", " ").replaceAll("\\s+", " ").trim();
            if (!said.equals(promises.group(3).trim())) {
                Check.wrong(promises.group(1) + " is told as \"" + said + "\", the document says \"" + promises.group(3) + "\"");
            }
            seen++;
        }
        Check.due("how many calls are told", seen, 27);
    }

    public static void main(String[] args) {
        String readme = read(Path.of("README.md"));
        Check.test("README.md, the example", () -> example(readme));
        if (Files.isReadable(DOCUMENT)) {
            Check.test("README.md, what each call wants and answers, in the document's words", () -> words(readme));
        } else {
            System.out.println(DOCUMENT + " is not there: README.md is not compared with it");
        }
        Check.end();
    }
}
