import java.io.IOException;
import java.nio.file.DirectoryStream;
import java.nio.file.Files;
import java.nio.file.Path;
import java.util.Arrays;
import java.util.regex.Matcher;
import java.util.regex.Pattern;

/**
 * No sentence of the document that names an edge is left without a test of its own: what the tests of the edges do not
 * quote of it names no number, no bound, no refusal and nothing that is empty, full, first or least.
 */
public final class SentencesTest {
    private static final int SHORTEST_QUOTE = 4;
    private static final Pattern EDGE = Pattern.compile("\\d|NONE|UNKNOWN|OUTSIDE|\\bNOT\\b|FULL|at most|more than|fewer|empty|\\bfirst\\b|least|greatest|never|just if");

    /** The document from its terms to its last promise, without headings, signatures and what the interface says. */
    private static String sentences() {
        StringBuilder text = new StringBuilder();
        for (String part : new String[] {"Terms", "1", "2", "3"}) {
            text.append(Document.part(part).replaceFirst("^(## Terms|======== \\d)", "")).append('\n');
        }
        for (int n = 1; n <= 36; n++) {
            text.append(Document.part("Promise " + n).replaceFirst("^## .*\n", "").replaceFirst("`[^`]*`: ", "")).append('\n');
        }
        text.replace(0, text.indexOf("All numbers"), "");
        return text.toString().replaceAll("(?m)^Ahead of the calls .*$", "").replace("```text", "").replace("```", "");
    }

    private static boolean[] quoted(String text) throws IOException {
        boolean[] quoted = new boolean[text.length()];
        try (DirectoryStream<Path> tests = Files.newDirectoryStream(Path.of("src/test/java"), "*EdgesTest.java")) {
            for (Path test : tests) {
                Matcher quote = Pattern.compile("\"([^\"\\\\\n]{" + SHORTEST_QUOTE + ",})\"").matcher(Files.readString(test));
                while (quote.find()) {
                    mark(text, quote.group(1), quoted);
                }
            }
        }
        return quoted;
    }

    private static void mark(String text, String quote, boolean[] quoted) {
        for (int at = text.indexOf(quote); at >= 0; at = text.indexOf(quote, at + 1)) {
            Arrays.fill(quoted, at, at + quote.length(), true);
        }
    }

    public static void main(String[] args) throws IOException {
        Checks checks = new Checks("SentencesTest");
        String text = sentences();
        boolean[] quoted = quoted(text);
        StringBuilder left = new StringBuilder();
        for (int i = 0; i < text.length(); i++) {
            left.append(quoted[i] ? '~' : text.charAt(i));
        }
        String[] gaps = left.toString().split("~+|\n");
        for (String gap : gaps) {
            checks.due("what no test of an edge quotes", EDGE.matcher(gap).find() ? gap : "", "");
        }
        checks.holds("most of the document is quoted", left.toString().replace("~", "").length() < text.length() / 4);
        checks.end();
    }
}
