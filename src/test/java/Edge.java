import java.util.ArrayList;
import java.util.List;

/**
 * A run of calls on a new object that holds one sentence of the document at its edge. All calls are kept, so that the
 * run can be made again, with and without one of them: that is how it is seen that a call changes nothing.
 */
final class Edge {
    private static final int MOST_CALLS = 512;

    private final Edges edges;
    private final String sentence;
    private final List<Call> run = new ArrayList<>();
    private final RowsAloud x = new RowsAloud();

    Edge(Edges edges, String sentence) {
        this.edges = edges;
        this.sentence = sentence;
    }

    // ---- calls whose answers are not looked at

    Edge fed(String text) {
        for (int i = 0; i < text.length(); i++) {
            done("feed(" + (int) text.charAt(i) + ")");
        }
        return this;
    }

    Edge desk(String text) {
        return fed(text).done("desk()");
    }

    Edge done(String... calls) {
        for (String call : calls) {
            answer(call);
        }
        return this;
    }

    Edge times(int n, String call) {
        for (int i = 0; i < n; i++) {
            answer(call);
        }
        return this;
    }

    private int answer(String written) {
        Call call = Call.of(written);
        run.add(call);
        if (run.size() > MOST_CALLS) {
            edges.checks.holds(sentence + ": no more calls than are promised", false);
        }
        return call.on(x);
    }

    // ---- calls whose answers are due

    Edge is(String call, int want) {
        edges.asked(call, want);
        edges.checks.due(sentence + ": " + call, answer(call), want);
        return this;
    }

    /** Likewise, and nothing may be changed by it. */
    Edge holds(String call, int want) {
        List<Call> without = new ArrayList<>(run);
        is(call, want);
        edges.checks.due(sentence + ": all behind " + call, Prints.all(run), Prints.all(without));
        return this;
    }

    Edge row(String want) {
        edges.checks.due(sentence + ": the row", Checks.row(x), want);
        return this;
    }

    /** The text has this fault: the answer, the letter, and all else is as it was. */
    Edge faulty(String text, int number, int letter) {
        List<Call> without = new ArrayList<>(run);
        fed(text);
        is("desk()", -10 - number);
        is("fault()", letter);
        is("told(3)", 0);
        edges.checks.due(sentence + ": all behind the faulty '" + text + "'", Prints.butFault(run), Prints.butFault(without));
        return this;
    }

    /** The text has no fault, and this is the row. */
    Edge faultless(String text, String row) {
        fed(text);
        is("desk()", row.length());
        is("fault()", RowsAloud.NONE);
        is("told(0)", row.isEmpty() ? 0 : 1);
        return row(row);
    }

    /** The row is read to what is said, by that kind. */
    Edge reads(int kind, String said) {
        return is("read(" + kind + ")", said.length()).row(said);
    }
}
