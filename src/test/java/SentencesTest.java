import java.io.IOException;
import java.nio.file.DirectoryStream;
import java.nio.file.Files;
import java.nio.file.Path;
import java.util.ArrayList;
import java.util.BitSet;
import java.util.List;
import java.util.regex.Matcher;
import java.util.regex.Pattern;

/**
 * Every sentence that a test names stands in the document, and every word of the document that tells a boundary (a
 * refusal, a least or a most, an end of a row of numbers) stands in a sentence that a test names.
 */
public final class SentencesTest {
    private static final Answers is = new Answers();
    private static final Pattern NAMED = Pattern.compile("is\\.sentence\\((\\d+), \"([^\"]*)\"\\);");
    private static final Pattern BOUNDARY = Pattern.compile("\\b(BAD|NOT|FULL|NULL|NONE|INDEX|CAST|STORE|SIZE|LOST|GONE"
        + "|at most|at least|least|fewest|soonest|greatest|most|up to|at first|above|below|empty|none|first|unless|wrap"
        + "|room|lowest|\\d to \\d+)\\b");

    private record Quote(int promise, String words) { }

    public static void main(String[] args) throws IOException {
        String[] parts = parts();
        List<Quote> quotes = quotes();
        is.holds("sentences are named", quotes.size() > 100);
        for (int promise = 0; promise <= 36; promise++) {
            check(promise, parts[promise], quotes);
        }
        is.end();
    }

    /** What stands ahead of the promises (0), and each promise, on one line. */
    private static String[] parts() throws IOException {
        String whole = Files.readString(Path.of("../shared/DOC.md")).replaceAll("\\s+", " ");
        String[] parts = new String[37];
        int from = 0;
        for (int promise = 1; promise <= 37; promise++) {
            int to = whole.indexOf(promise == 37 ? "## Not promised" : "## Promise " + promise + ":");
            is.holds("promise " + promise + " is found", to > from);
            parts[promise - 1] = whole.substring(from, to);
            from = to;
        }
        return parts;
    }

    private static List<Quote> quotes() throws IOException {
        List<Quote> quotes = new ArrayList<>();
        try (DirectoryStream<Path> files = Files.newDirectoryStream(Path.of("src/test/java"), "EdgesOf*Test.java")) {
            for (Path file : files) {
                Matcher m = NAMED.matcher(Files.readString(file));
                while (m.find()) quotes.add(new Quote(Integer.parseInt(m.group(1)), m.group(2)));
            }
        }
        return quotes;
    }

    private static void check(int promise, String part, List<Quote> quotes) {
        BitSet named = new BitSet();
        for (Quote quote : quotes) {
            if (quote.promise() != promise) continue;
            int at = part.indexOf(quote.words());
            is.holds("promise " + promise + " says: " + quote.words(), at >= 0);
            if (at >= 0) named.set(at, at + quote.words().length());
        }
        is.holds("a test names promise " + promise, !named.isEmpty());
        // The tale that the document begins with, the face and the headings tell no boundary.
        int from = promise == 0 ? part.indexOf("1 REELS are a text") : part.indexOf("`: ");
        Matcher m = BOUNDARY.matcher(part);
        for (int at = from; m.find(at); at = m.end()) {
            if (isFace(part, m.start())) continue;
            String near = part.substring(Math.max(0, m.start() - 50), Math.min(part.length(), m.end() + 30));
            is.holds("promise " + promise + ", a test names '" + m.group() + "' in .." + near + "..", named.get(m.start()));
        }
    }

    private static boolean isFace(String part, int at) {
        return at > part.indexOf("## The public face") && at < part.indexOf("## Terms");
    }
}
