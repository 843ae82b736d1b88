import java.util.HashSet;
import java.util.Set;
import java.util.TreeSet;
import java.util.regex.Matcher;
import java.util.regex.Pattern;

/** The edges of one part of the document: which sentences are held, by which calls, and whether any refusal was left out. */
final class Edges {
    final Checks checks;
    private final Set<String> answers = new TreeSet<>();
    private final Set<String> arguments = new HashSet<>();
    private String part;

    Edges(String test) {
        checks = new Checks(test);
    }

    /** From now on the sentences are of this part of the document. */
    void part(String name) {
        part = name;
        checks.holds("the document has the part " + name, !Document.part(name).isEmpty());
    }

    /** A new object, to hold a sentence that stands in the part. */
    Edge sentence(String sentence) {
        checks.holds(part + " says: " + sentence, Document.says(part, sentence));
        return new Edge(this, part + ": " + sentence);
    }

    void asked(String written, int want) {
        Call call = Call.of(written);
        answers.add(part + " " + call.name + " " + want);
        for (Object argument : call.arguments) {
            arguments.add(part + " " + call.name + " " + argument);
        }
    }

    /** No refusal and no bound that a promise names is left without a call of its own. */
    void complete(int from, int to) {
        for (int n = from; n <= to; n++) {
            String promise = "Promise " + n;
            Matcher told = Pattern.compile("(?s)## Promise \\d+: (\\w+).*?`: (.*)").matcher(Document.part(promise));
            checks.holds(promise + " has a call", told.find());
            eachRefusal(promise + " " + told.group(1), told.group(2));
            eachBound(promise + " " + told.group(1), told.group(2));
        }
    }

    private void eachRefusal(String call, String text) {
        String[] names = {"UNKNOWN", "OUTSIDE", "NOT", "FULL"};
        int[] numbers = {RowsAloud.UNKNOWN, RowsAloud.OUTSIDE, RowsAloud.NOT, RowsAloud.FULL};
        for (int i = 0; i < names.length; i++) {
            boolean named = Pattern.compile("\\b" + names[i] + "\\b").matcher(text).find();
            checks.due(call + " was refused by " + names[i], answers.contains(call + " " + numbers[i]) + "", named + "");
        }
        // A book's entry may be NONE, but write() never answers it; and no row was found that does not come again in 60.
        boolean none = text.contains("NONE") && !call.endsWith(" write") && !call.endsWith(" again");
        checks.due(call + " answered NONE", answers.contains(call + " " + RowsAloud.NONE) + "", none + "");
    }

    private void eachBound(String call, String text) {
        Matcher bounds = Pattern.compile("(\\d+) \\.\\. (\\d+)").matcher(text);
        while (bounds.find()) {
            long least = Long.parseLong(bounds.group(1));
            long greatest = Long.parseLong(bounds.group(2));
            for (long number : new long[] {least - 1, least, greatest, greatest + 1}) {
                boolean tried = number > Integer.MAX_VALUE || arguments.contains(call + " " + number);
                checks.holds(call + " was tried with " + number, tried);
            }
        }
    }

    void end() {
        checks.end();
    }
}
