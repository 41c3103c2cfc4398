import java.io.IOException;
import java.nio.file.DirectoryStream;
import java.nio.file.Files;
import java.nio.file.Path;
import java.util.Set;
import java.util.TreeSet;
import java.util.regex.Matcher;
import java.util.regex.Pattern;

/**
 * The document against the tests: what they quote of it (with says(..), or in a row named sentences) stands
 * there word for word, and no word of its terms and promises is in no quotation.
 */
public final class DocumentTest {
    private static final Check CHECK = new Check();
    private static final Pattern LITERAL = Pattern.compile("\"((?:[^\"\\\\\n]|\\\\.)*)\"");
    private static final Pattern SAID = Pattern.compile("\\bsays\\(\\s*" + LITERAL.pattern());
    private static final Pattern ROWS = Pattern.compile("(?s)\\bsentences = \\{(.*?)\\};");

    public static void main(String[] args) throws IOException {
        String document = Files.readString(Path.of("../shared/DOC.md"));
        Set<String> quotes = quotes();
        CHECK.yes("there are quotations", quotes.size() > 100);
        boolean[] quoted = new boolean[document.length()];
        for (String quote : quotes) {
            int at = document.indexOf(quote);
            CHECK.yes("the document says '" + quote + "'", at >= 0);
            for (; at >= 0; at = document.indexOf(quote, at + 1)) {
                mark(quoted, at, at + quote.length());
            }
        }
        leaveOut(document, quoted);
        lookForWords(document, quoted);
        CHECK.finish();
    }

    private static Set<String> quotes() throws IOException {
        Set<String> quotes = new TreeSet<>();
        try (DirectoryStream<Path> files = Files.newDirectoryStream(Path.of("src/test/java"), "*Test.java")) {
            for (Path file : files) {
                String source = Files.readString(file).replaceAll("\"\\s*\\+\\s*\"", "");
                add(quotes, SAID, source);
                Matcher rows = ROWS.matcher(source);
                while (rows.find()) {
                    add(quotes, LITERAL, rows.group(1));
                }
            }
        }
        return quotes;
    }

    private static void add(Set<String> quotes, Pattern pattern, String source) {
        Matcher m = pattern.matcher(source);
        while (m.find()) {
            quotes.add(m.group(1));
        }
    }

    private static void mark(boolean[] quoted, int from, int to) {
        for (int i = from; i < to; i++) {
            quoted[i] = true;
        }
    }

    /** What no answer shows: the story ahead of the terms, headings, and what is not promised; the face has FaceTest. */
    private static void leaveOut(String document, boolean[] quoted) {
        String[] parts = {"(?s)^# DeadLasts.*?======== 1 ", "(?s)## The public face.*?## Terms", "```text",
            "======== [2-4] ", "Ahead of the calls .*", "## Promise \\d+: .*", "(?m)^`.*?`: ",
            "; what later calls answer is free", "(?s)## Not promised.*"};
        for (String part : parts) {
            Matcher m = Pattern.compile(part).matcher(document);
            boolean found = false;
            while (m.find()) {
                found = true;
                mark(quoted, m.start(), m.end());
            }
            CHECK.yes("the document has " + part, found);
        }
    }

    private static void lookForWords(String document, boolean[] quoted) {
        Matcher word = Pattern.compile("\\w+").matcher(document);
        while (word.find()) {
            int around = Math.max(0, word.start() - 30);
            String words = document.substring(around, Math.min(document.length(), word.end() + 30)).replace('\n', ' ');
            CHECK.yes("a test quotes '" + word.group() + "' of '.." + words + "..'", quoted[word.start()]);
        }
    }
}
