import java.io.IOException;
import java.lang.reflect.Method;
import java.lang.reflect.Modifier;
import java.nio.file.DirectoryStream;
import java.nio.file.Files;
import java.nio.file.Path;
import java.util.ArrayList;
import java.util.HashMap;
import java.util.List;
import java.util.Map;
import java.util.Set;
import java.util.TreeSet;
import java.util.regex.Matcher;
import java.util.regex.Pattern;

/**
 * What README.md shows of calls and answers is what the class answers, line by line; a line of Java that this test does
 * not understand is wrong, so that nothing is shown that was not tried.
 */
public final class ReadmeTest {
    private static final Pattern BLOCK = Pattern.compile("(?ms)^```java\n(.*?)^```$");
    private static final Pattern MADE = Pattern.compile("RowsAloud (\\w+) = new RowsAloud\\(\\);");
    private static final Pattern FED = Pattern.compile("for \\(char letter : \"([^\"]*)\"\\.toCharArray\\(\\)\\) \\{ (\\w+)\\.feed\\(letter\\); \\}");
    private static final Pattern CALLED = Pattern.compile("(\\w+)\\.(\\w+)(\\([^()]*\\)); +// (-?\\d+|[A-Z]+)(: .*)?");
    private static final Pattern ROW = Pattern.compile("the row is (\\d+)");
    private static final Pattern READER = Pattern.compile("(?m)^\\| (\\d) \\| [^|]+ \\| (\\d+) \\|$");
    private static final Pattern REFUSAL = Pattern.compile("(?m)^\\| `([A-Z]+)` \\| (-\\d+) \\|");
    private static final Map<String, Integer> NAMED = Map.of("NONE", RowsAloud.NONE, "UNKNOWN", RowsAloud.UNKNOWN,
        "OUTSIDE", RowsAloud.OUTSIDE, "NOT", RowsAloud.NOT, "FULL", RowsAloud.FULL);
    private static final Edges EDGES = new Edges("ReadmeTest");

    private final Map<String, Edge> objects = new HashMap<>();
    private final Set<String> shown = new TreeSet<>();

    // ---- the program that the page shows

    /** A loop's three lines are taken as one. */
    private static String[] statements(String block) {
        return block.replaceAll("\\{\n +", "{ ").replaceAll(";\n\\}", "; }").split("\n");
    }

    private void run(String statement) {
        Matcher made = MADE.matcher(statement);
        Matcher fed = FED.matcher(statement);
        Matcher called = CALLED.matcher(statement);
        if (made.matches()) {
            objects.put(made.group(1), new Edge(EDGES, "README.md"));
        } else if (fed.matches() && objects.containsKey(fed.group(2))) {
            objects.get(fed.group(2)).fed(fed.group(1));
        } else if (called.matches() && objects.containsKey(called.group(1))) {
            call(objects.get(called.group(1)), called);
        } else {
            EDGES.checks.holds("README.md: '" + statement + "' is understood", false);
        }
    }

    private void call(Edge object, Matcher called) {
        String call = called.group(2) + called.group(3);
        String answer = called.group(4);
        shown.add(called.group(2));
        shown.add(answer);
        int want = NAMED.containsKey(answer) ? NAMED.get(answer) : Integer.parseInt(answer);
        if (want <= RowsAloud.UNKNOWN) {
            object.holds(call, want);
        } else {
            object.is(call, want);
        }
        Matcher row = ROW.matcher(called.group(5) == null ? "" : called.group(5));
        if (row.find()) {
            object.row(row.group(1));
        }
    }

    /** Every call and every constant of the class is shown with an answer. */
    private void complete() {
        for (Method method : RowsAloud.class.getDeclaredMethods()) {
            if (Modifier.isPublic(method.getModifiers())) {
                EDGES.checks.holds("README.md shows what " + method.getName() + " answers", shown.contains(method.getName()));
            }
        }
        for (String name : NAMED.keySet()) {
            EDGES.checks.holds("README.md shows a call that answers " + name, shown.contains(name));
        }
    }

    // ---- what else the page tells in figures

    private static void readers(String page) {
        Matcher told = Pattern.compile("reads (\\d+) as").matcher(page);
        EDGES.checks.holds("README.md tells which row its readers read", told.find());
        Set<String> kinds = new TreeSet<>();
        Matcher reader = READER.matcher(page);
        while (reader.find()) {
            kinds.add(reader.group(1));
            new Edge(EDGES, "README.md, readers").desk("r" + told.group(1) + ";").reads(Integer.parseInt(reader.group(1)), reader.group(2));
        }
        EDGES.checks.due("the kinds that README.md tells of", kinds.toString(), "[0, 1, 2, 3, 4, 5]");
        Matcher ten = Pattern.compile("ten sevens are `(\\d+)` by a plain reader").matcher(page);
        EDGES.checks.holds("README.md tells of ten sevens", ten.find());
        new Edge(EDGES, "README.md, in parts").desk("r7777777777;").reads(0, ten.group(1));
    }

    private static void refusals(String page) {
        List<String> names = new ArrayList<>();
        Matcher refusal = REFUSAL.matcher(page);
        while (refusal.find()) {
            names.add(refusal.group(1));
            EDGES.checks.due("README.md: " + refusal.group(1), Integer.parseInt(refusal.group(2)), NAMED.getOrDefault(refusal.group(1), 0));
        }
        EDGES.checks.due("the refusals of README.md, in their order", names.toString(), "[UNKNOWN, OUTSIDE, NOT, FULL]");
        EDGES.checks.holds("README.md tells what NONE is", page.contains("`NONE` (" + RowsAloud.NONE + ")"));
    }

    /** What is shown of a test is a line of one, and so it is run with that. */
    private static void test(String line) throws IOException {
        boolean found = false;
        try (DirectoryStream<Path> tests = Files.newDirectoryStream(Path.of("src/test/java"), "*EdgesTest.java")) {
            for (Path test : tests) {
                found |= Files.readAllLines(test).stream().anyMatch(other -> other.trim().equals(line));
            }
        }
        EDGES.checks.holds("README.md: a test has the line '" + line + "'", found);
    }

    public static void main(String[] args) throws IOException {
        String page = Files.readString(Path.of("README.md"));
        ReadmeTest readme = new ReadmeTest();
        Matcher block = BLOCK.matcher(page);
        while (block.find()) {
            for (String statement : statements(block.group(1))) {
                if (statement.startsWith("row(")) {
                    test(statement);
                } else {
                    readme.run(statement);
                }
            }
        }
        readme.complete();
        readers(page);
        refusals(page);
        EDGES.end();
    }
}
