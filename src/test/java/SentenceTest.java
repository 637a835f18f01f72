import java.io.IOException;
import java.nio.file.DirectoryStream;
import java.nio.file.Files;
import java.nio.file.Path;
import java.util.regex.Matcher;
import java.util.regex.Pattern;

/** Every sentence of the document's terms and promises is one that some test names as its own. */
public final class SentenceTest {
    private static final Pattern QUOTES = Pattern.compile("Edge\\.says\\(((?:\\s*\\+?\\s*\"(?:[^\"\\\\]|\\\\.)*\")+)\\)");
    private static final Pattern PIECE = Pattern.compile("\"((?:[^\"\\\\]|\\\\.)*)\"");
    private static final int LEAST_LETTERS = 8;

    public static void main(String[] args) throws IOException {
        String document = Edge.plain(Files.readString(Path.of("../shared/DOC.md")));
        boolean[] named = new boolean[document.length()];
        int quotes = 0;
        try (DirectoryStream<Path> tests = Files.newDirectoryStream(Path.of("src/test/java"), "*Test.java")) {
            for (Path test : tests) {
                quotes += mark(document, named, Files.readString(test));
            }
        }
        Check.yes("quotes: " + quotes, quotes > 150);
        int from = document.indexOf("## Terms");
        int to = document.indexOf("## Not promised");
        Matcher sentence = Pattern.compile("[^.]+(?:\\.\\.[^.]*)*\\.(?= |$)").matcher(document);
        sentence.region(from + "## Terms".length(), to);
        int sentences = 0;
        while (sentence.find()) {
            if (tells(sentence.group())) {
                sentences++;
                int letters = 0;
                for (int i = sentence.start(); i < sentence.end(); i++) {
                    letters += named[i] ? 1 : 0;
                }
                Check.yes("a test names: " + sentence.group().trim(), letters >= LEAST_LETTERS);
            }
        }
        Check.yes("sentences: " + sentences, sentences > 120);
        for (int promise = 1; promise <= 56; promise++) {
            Check.yes("promise " + promise, document.contains("## Promise " + promise + ": "));
        }
        Check.end();
    }

    /** A part's number alone tells nothing. */
    private static boolean tells(String sentence) {
        return !sentence.trim().matches("(```( text)? )*==== \\d\\.");
    }

    private static int mark(String document, boolean[] named, String test) {
        int quotes = 0;
        Matcher quote = QUOTES.matcher(test);
        while (quote.find()) {
            StringBuilder text = new StringBuilder();
            Matcher piece = PIECE.matcher(quote.group(1));
            while (piece.find()) {
                text.append(piece.group(1));
            }
            String plain = Edge.plain(text.toString());
            for (int at = document.indexOf(plain); at >= 0; at = document.indexOf(plain, at + 1)) {
                java.util.Arrays.fill(named, at, at + plain.length(), true);
            }
            quotes++;
        }
        return quotes;
    }
}
