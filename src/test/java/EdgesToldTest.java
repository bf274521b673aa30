import java.io.IOException;
import java.nio.file.DirectoryStream;
import java.nio.file.Files;
import java.nio.file.Path;
import java.util.regex.Matcher;
import java.util.regex.Pattern;

/**
 * Each promise, and the Terms, has tests of its edges. The words that tests stand under are looked for in the document
 * too: those that aren't there any more are told, but are no failure, for a document may be worded anew.
 */
public final class EdgesToldTest {
    private static final int PROMISES = 49;
    private static final Path DOCUMENT = Path.of("../shared/DOC.md");
    private static final Pattern EDGE = Pattern.compile("\\b(?:edge|grid|ofAll)\\((\\d+), \"([^\"]*)\"");

    public static void main(String[] args) throws IOException {
        int[] many = new int[PROMISES + 1];
        String document = Files.exists(DOCUMENT) ? Files.readString(DOCUMENT).replaceAll("\\s+", " ") : "";
        try (DirectoryStream<Path> files = Files.newDirectoryStream(Path.of("src/test/java"), "Edge*Test.java")) {
            for (Path file : files) {
                // texts that go over several lines are one
                Matcher m = EDGE.matcher(Files.readString(file).replaceAll("\"\\s*\\+\\s*\"", ""));
                while (m.find()) {
                    many[Integer.parseInt(m.group(1))]++;
                    if (!document.isEmpty() && !document.contains(m.group(2))) {
                        System.out.println("note: the document doesn't say: " + m.group(2));
                    }
                }
            }
        }
        for (int promise = 0; promise <= PROMISES; promise++) {
            Check.due("promise " + promise + " (0: the Terms) has a test of its edges", many[promise] > 0 ? 1 : 0, 1);
        }
        Check.end();
    }
}
