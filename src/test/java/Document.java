import java.io.IOException;
import java.io.UncheckedIOException;
import java.nio.file.Files;
import java.nio.file.Path;
import java.util.regex.Matcher;
import java.util.regex.Pattern;

/** The document, part by part: a test says which sentence it holds, and the sentence must stand there. */
final class Document {
    private static final String TEXT = load();

    private Document() {
    }

    private static String load() {
        try {
            return Files.readString(Path.of("../shared/DOC.md"));
        } catch (IOException e) {
            throw new UncheckedIOException(e);
        }
    }

    /** A part by its name: "Terms", "1", "2", "3" or "Promise n"; empty if there is none. */
    static String part(String name) {
        String[] begins = {"## " + name + ": ", "## " + name + "\n", "======== " + name + " "};
        for (String begin : begins) {
            int start = TEXT.indexOf(begin);
            if (start >= 0) {
                return TEXT.substring(start, end(start + begin.length()));
            }
        }
        return "";
    }

    private static int end(int from) {
        Matcher next = Pattern.compile("(?m)^(## |========)").matcher(TEXT);
        return next.find(from) ? next.start() : TEXT.length();
    }

    static boolean says(String part, String sentence) {
        return part(part).contains(sentence);
    }
}
