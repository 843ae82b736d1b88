/** The edges of what the document's terms say ahead of section 1, for all calls: NONE, refusals, their order. */
public final class TermsEdgesTest {
    private static final int NONE = RowsAloud.NONE, UNKNOWN = RowsAloud.UNKNOWN, OUTSIDE = RowsAloud.OUTSIDE, NOT = RowsAloud.NOT,
        FULL = RowsAloud.FULL;
    private static final int BILLION = 1000000000;
    private static final Edges EDGES = new Edges("TermsEdgesTest");

    private static Edge sentence(String sentence) {
        return EDGES.sentence(sentence);
    }

    /** All that can be full is full, and there is nothing that can be undone and no image. */
    private static Edge full(String sentence) {
        return sentence(sentence).desk("r" + "91".repeat(30) + ";w12345678;").times(6, "hear(0, 0, false)").times(20, "write(0, 1)").fed("x".repeat(240));
    }

    private static void numbers() {
        EDGES.part("Terms");
        sentence("All numbers are whole; / cuts towards 0.").is("noSlip(5, 1)", 0).is("noSlip(6, 7)", 117).done("seed(" + Draws.start(8, 3, 8, 4) + ")").desk("r77;").is("drift(2)", 2)
            .row("27").is("logged(0, 0)", 4).is("logged(1, 0)", 3);
        sentence("What has a number has it from 0 on, as it comes.").desk("r56;w78;w9;").is("at(0)", 5).is("at(1)", 6).is("spelt(0, 0)", 7).is("spelt(0, 1)", 8)
            .is("spelt(1, 0)", 9).done("write(0, 0)", "write(1, 0)").is("judge()", 0).done("keep(0)").is("goBack(0)", 1).holds("goBack(1)", NOT)
            .done("read(4)").is("logged(0, 0)", 4).is("apart(1)", 1);
        Edge set = sentence("A SET is a whole number, bit k for k.").is("couldBe()", 63).desk("r1;w3;w31;w22;").done("hear(0, 1, true)").is("couldBe()", 2)
            .done("tear()", "hear(0, 0, true)").is("couldBe()", 16).done("tear()", "hear(0, 1, false)").is("couldBe()", 61);
        set.done("hear(2, 2, false)").is("couldBe()", 0);
        sentence("BILLION is 1000000000.").is("noSlip(0, 0)", BILLION).desk("r" + "1".repeat(60) + ";w1;w11;").is("told(10)", BILLION);
        EDGES.checks.due("NONE is -1.", RowsAloud.NONE, -1);
        EDGES.checks.due("UNKNOWN", RowsAloud.UNKNOWN, -1000000001);
        EDGES.checks.due("OUTSIDE", RowsAloud.OUTSIDE, -1000000002);
        EDGES.checks.due("NOT", RowsAloud.NOT, -1000000003);
        EDGES.checks.due("FULL", RowsAloud.FULL, -1000000004);
        sentence("NONE is -1.").is("at(0)", -1).is("told(7)", -1).is("turn()", -1);
        // Below 0 nothing but NONE and the faults of a text is counted, and these are not below -13.
        sentence("They are far below all that is counted: -1000000001 and on.").is("word(0)", -1000000001).is("at(60)", -1000000002).is("undo(31)", -1000000002)
            .is("undo(1)", -1000000003).times(60, "put(1)").is("put(1)", -1000000004).fed("r1;r").is("desk()", -13);
    }

    /** Every call that has two refusals, where both are due: the first in the order is answered, and changes nothing. */
    private static void order() {
        EDGES.part("Terms");
        String named = "REFUSALS, of several the first in this order: UNKNOWN";
        full(named).holds("spelt(1, 8)", UNKNOWN).holds("spelt(-1, -1)", UNKNOWN).holds("change(60, 10)", UNKNOWN).holds("change(-1, -1)", UNKNOWN)
            .holds("word(1)", UNKNOWN).holds("hear(1, 0, true)", UNKNOWN).holds("hear(0, 1, true)", UNKNOWN).holds("goBack(2)", UNKNOWN).holds("goBack(-1)", UNKNOWN);
        full(named).holds("feed(256)", OUTSIDE).holds("read(6)", OUTSIDE).holds("put(10)", OUTSIDE).holds("write(60, 0)", OUTSIDE).holds("write(0, 10)", OUTSIDE)
            .holds("undo(31)", OUTSIDE).holds("undo(0)", OUTSIDE);
        sentence(named).desk("r" + "91".repeat(29) + "01;").holds("unread()", NOT);
        full(named).holds("unread()", FULL).holds("feed(32)", FULL).holds("read(0)", FULL).holds("put(0)", FULL).holds("word(0)", FULL)
            .holds("hear(0, 0, true)", FULL).holds("write(0, 0)", FULL).holds("undo(1)", NOT).holds("goBack(0)", NOT);
        sentence("UNKNOWN (a PLACE, WORD, IMAGE that there is not)").desk("r12;w3;").holds("change(2, 0)", UNKNOWN).is("change(1, 2)", 2).holds("word(1)", UNKNOWN)
            .is("word(0)", 3).is("change(2, 3)", 3).holds("keep(2)", UNKNOWN).is("keep(1)", 1);
        sentence("NOT (not now, as told)").desk("r1;").holds("unread()", NOT).holds("undo(1)", NOT).holds("goBack(1)", NOT).done("read(0)").is("unread()", 1)
            .is("undo(1)", 2).done("keep(1)").is("goBack(1)", 1);
        // Nothing comes ahead of a number that is outside, not even that there is nothing there.
        sentence("OUTSIDE (another number out of its bounds)").holds("logged(0, 2)", OUTSIDE).holds("figure(0, 9, 0)", OUTSIDE).holds("first(0, 10)", OUTSIDE)
            .holds("again(2)", OUTSIDE).holds("apart(3)", OUTSIDE).holds("back(2)", OUTSIDE).holds("told(14)", OUTSIDE).holds("at(60)", OUTSIDE);
    }

    private static void refused(int refusal, String... calls) {
        for (String call : calls) {
            sentence("What is refused changes nothing.").desk("r1;w2;w34;w567;").done("read(0)", "keep(0)", "read(1)", "seed(6)", "keep(1)", "read(2)", "put(0)")
                .done("word(2)", "turn()", "hear(0, 1, false)", "write(0, 7)", "write(1, 9)", "seed(8)").fed("r1").row("76501121").holds(call, refusal);
        }
    }

    /** On an object on which there is something of everything: eight figures, three words, four deeds, both images. */
    private static void changesNothing() {
        EDGES.part("Terms");
        refused(UNKNOWN, "spelt(3, 0)", "word(3)", "change(8, 1)", "in(3)", "changes(3)", "hear(0, 3, true)", "hear(3, 0, true)", "keep(2)", "goBack(2)");
        refused(OUTSIDE, "feed(-1)", "feed(256)", "told(14)", "at(60)", "spelt(0, 8)", "logged(0, 2)", "read(6)", "put(10)", "change(0, 10)", "drop(9)", "drift(21)",
            "undo(31)", "length(6, 0)", "figure(0, 0, 15360)", "often(0, 0, 10)", "first(6, 0)", "again(2)", "apart(3)", "back(2)", "noSlip(61, 0)",
            "write(60, 0)", "seed(-1)");
        refused(NOT, "unread()", "undo(5)");
    }

    public static void main(String[] args) {
        numbers();
        order();
        changesNothing();
        EDGES.end();
    }
}
