import java.io.IOException;
import java.nio.file.Files;
import java.nio.file.Path;
import java.util.ArrayList;
import java.util.List;
import java.util.regex.Matcher;
import java.util.regex.Pattern;

/** Every sentence that a test quotes stands in the document, and every sentence there is quoted. */
public final class DocumentTest {
    private static final Check CHECK = new Check("DocumentTest");
    private static final Path DOCUMENT = Path.of("../shared/DOC.md");
    private static final String LITERAL = "\"((?:[^\"\\\\]|\\\\.)*)\"";
    private static final Pattern CALL = Pattern.compile("sentence\\(\\s*(" + LITERAL + "(?:\\s*,\\s*" + LITERAL + ")*)\\s*\\);");
    // What lies between two quotes may be a word that joins them, or the name of what comes.
    private static final int GLUE = 16;

    public static void main(String[] args) throws IOException {
        List<String> quotes = quotes();
        CHECK.due("there are quotes", quotes.size() > 200, true);
        if (Files.exists(DOCUMENT)) {
            String document = Files.readString(DOCUMENT);
            int promised = words(document.replaceAll("(?s)## Not promised.*", "")).length();
            compare(words(document), promised, quotes);
        } else {
            System.out.println("DocumentTest: " + DOCUMENT + " is not here, so no quote was looked up");
        }
        CHECK.end();
    }

    private static List<String> quotes() throws IOException {
        List<String> quotes = new ArrayList<>();
        try (var files = Files.newDirectoryStream(Path.of("src/test/java"), "*Test.java")) {
            for (Path file : files) {
                Matcher calls = CALL.matcher(Files.readString(file));
                while (calls.find()) {
                    Matcher literals = Pattern.compile(LITERAL).matcher(calls.group(1));
                    while (literals.find()) {
                        quotes.add(literals.group(1).replace("\\\"", "\""));
                    }
                }
            }
        }
        return quotes;
    }

    /** The document without its face, its headings and the signatures ahead of the promises. */
    private static String words(String document) {
        String text = document.replaceAll("(?s)```java.*?```", "").replaceAll("```(text)?", "").replaceAll("(?m)^#.*$", "");
        return text.replaceAll("(?m)^`[^`]*`: ", "").replaceAll("\\s+", " ").strip();
    }

    private static void compare(String document, int promised, List<String> quotes) {
        boolean[] quoted = new boolean[document.length()];
        for (String quote : quotes) {
            int at = document.indexOf(quote);
            CHECK.due("the document says \"" + quote + "\"", at >= 0, true);
            for (; at >= 0; at = document.indexOf(quote, at + 1)) {
                java.util.Arrays.fill(quoted, at, at + quote.length(), true);
            }
        }
        int from = 0;
        for (int k = 0; k <= promised; k++) {
            if (k == promised || quoted[k]) {
                if (k > from) {
                    CHECK.due("no test quotes \"" + document.substring(from, k) + "\"", k - from > GLUE, false);
                }
                from = k + 1;
            }
        }
    }
}
