import java.io.IOException;
import java.nio.file.Files;
import java.nio.file.Path;
import java.util.Set;
import java.util.regex.Matcher;
import java.util.regex.Pattern;

/** The class keeps to the part of Java that LANGUAGE.md leaves, as far as its text shows it. */
public final class RulesTest {
    private static final Checks CHECKS = new Checks("RulesTest");
    private static final Set<String> LIBRARY = Set.of("Math.min", "Math.max", "Integer.bitCount", "System.arraycopy");

    /** The source without comments and signs in quotes. */
    private static String bare(String source) {
        return source.replaceAll("(?s)/\\*.*?\\*/", "").replaceAll("//[^\n]*", "").replaceAll("'[^']'", "'_'").replaceAll("\"[^\"\n]*\"", "\"\"");
    }

    private static int count(String text, String pattern) {
        Matcher m = Pattern.compile(pattern).matcher(text);
        int n = 0;
        while (m.find()) {
            n++;
        }
        return n;
    }

    private static void forbidden(String code) {
        String[] words = {"throw", "throws", "try", "catch", "finally", "synchronized", "assert", "import", "package", "protected",
            "native", "volatile", "transient", "double", "float", "var", "record", "sealed", "Object", "instanceof"};
        for (String word : words) {
            CHECKS.due("'" + word + "' in the source", count(code, "\\b" + word + "\\b"), 0);
        }
        CHECKS.due("lambdas, method references, annotations, texts", count(code, "->|::|@|\""), 0);
        CHECKS.due("loops without a counter", count(code, "\\bwhile\\b|\\bdo\\b"), 0);
        CHECKS.due("signs that are not plain", count(code, "[^\\x20-\\x7e\n]"), 0);
        Matcher m = Pattern.compile("\\b([A-Z][A-Za-z]*)\\.([a-zA-Z]+)").matcher(code);
        while (m.find()) {
            CHECKS.holds(m.group() + " is own or of the library", m.group(1).equals("Readers") || LIBRARY.contains(m.group()));
        }
    }

    private static void shape(String code) {
        CHECKS.holds("some twelve classes", count(code, "\\bclass\\s+[A-Z]") <= 12);
        CHECKS.due("classes inside that are not private static final",
            count(code, "(?m)^    .*\\bclass\\b") - count(code, "(?m)^    private static final class\\b"), 0);
        Matcher fields = Pattern.compile("(?m)^.*\\bstatic\\b(?!.*[({]).*;$").matcher(code);
        while (fields.find()) {
            CHECKS.holds("a constant: " + fields.group().trim(), fields.group().matches(" {4}(public|private) static final int [A-Z_]+ = .*"));
        }
        Matcher methods = Pattern.compile("(?m)^( {4}| {8})(?:public |private |static |final )*[A-Za-z\\[\\]]+ ?[a-zA-Z]*\\(([^)]*)\\) \\{\n(?s)(.*?)\n\\1\\}").matcher(code);
        int seen = 0;
        while (methods.find()) {
            seen++;
            CHECKS.holds("at most seven parameters: " + methods.group(2), methods.group(2).split(",").length <= 7);
            CHECKS.holds("a short method: " + methods.group().split("\n")[0].trim(), methods.group(3).split("\n").length <= 60);
        }
        CHECKS.holds("the methods were found", seen > 100);
    }

    public static void main(String[] args) throws IOException {
        String code = bare(Files.readString(Path.of("src/main/java/RowsAloud.java")));
        forbidden(code);
        shape(code);
        CHECKS.end();
    }
}
