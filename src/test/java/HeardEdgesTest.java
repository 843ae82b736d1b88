/** The edges of what section 3 of the document says of what is heard and of the book, and of promises 28 to 33. */
public final class HeardEdgesTest {
    private static final int NONE = RowsAloud.NONE, UNKNOWN = RowsAloud.UNKNOWN, OUTSIDE = RowsAloud.OUTSIDE, FULL = RowsAloud.FULL;
    private static final int ALL_KINDS = 63;
    /** By these words the six kinds fall into parts of which the greatest has 6, 5, 4, 3, 2 and 1. */
    private static final String[] PARTING = {"w22;", "w1;", "w3;", "w13;", "w31;", "w000010;"};
    private static final Edges EDGES = new Edges("HeardEdgesTest");

    private static Edge sentence(String sentence) {
        return EDGES.sentence(sentence);
    }

    private static Edge desk(String sentence, String text) {
        return sentence(sentence).desk(text);
    }

    /** A desk with two words on which there is something of everything. */
    private static Edge busy(String sentence) {
        return desk(sentence, "r987;w3;w13;").done("read(0)", "keep(0)", "put(3)", "seed(5)", "keep(1)", "turn()", "put(1)", "seed(77)");
    }

    // ---- section 3: what is heard

    private static void heard() {
        EDGES.part("3");
        String named = "HEARD (6 at most): a reader of an unknown KIND read a WORD, and said another WORD, or did not.";
        desk(named, "r1;w3;w13;").is("told(11)", 0).times(5, "hear(0, 1, true)").is("told(11)", 5).is("hear(0, 1, true)", 6).holds("hear(0, 1, true)", FULL)
            .holds("hear(0, 0, false)", FULL).is("told(11)", 6).is("couldBe()", 0b101101);
        desk(named, "r1;w3;w13;").is("hear(0, 1, true)", 1).is("couldBe()", 0b101101);
        desk(named, "r1;w3;w13;").is("hear(0, 1, false)", 1).is("couldBe()", 0b010010);
        // A word's reading may be as long as two words; then no word is it, but for one who says no ones.
        desk(named, "r1;w12345678;w11121314;").is("hear(0, 1, true)", 1).is("couldBe()", 0).is("tear()", 1).is("hear(0, 1, false)", 1)
            .is("couldBe()", ALL_KINDS).is("hear(0, 0, true)", 2).is("couldBe()", 0b010000);
        // The word must be what is said from its first figure to its last.
        desk(named, "r1;w33;w2;w233;w23;").done("hear(0, 1, true)").is("couldBe()", 0).done("tear()", "hear(0, 2, true)").is("couldBe()", 0)
            .done("tear()", "hear(0, 3, true)").is("couldBe()", 0b111101);
    }

    private static void couldBe() {
        EDGES.part("3");
        String named = "COULD BE: KINDS (a SET) by whom all that is HEARD is so.";
        sentence(named).is("couldBe()", ALL_KINDS);
        desk(named, "r1;w3;").is("couldBe()", ALL_KINDS);
        // 1121 is said by 0 and 5 alike, by the others each in a way of its own; 4444 is said otherwise by 5 alone.
        String[] said = {"211211", "122111", "111221", "3112", "2121", "211211"};
        for (int kind = 0; kind <= 5; kind++) {
            desk(named, "r1;w1121;w" + said[kind] + ";w4444;w34;").done("hear(0, 1, true)", "hear(2, 3, " + (kind == 5) + ")").is("couldBe()", 1 << kind)
                .is("ask()", NONE).done("hear(0, 1, false)").is("couldBe()", 0);
        }
        // The sixth that is heard counts as the first does.
        desk(named, "r1;w22;w3;").times(5, "hear(0, 0, true)").is("couldBe()", ALL_KINDS).done("hear(1, 1, true)").is("couldBe()", 0b010000);
        desk(named, "r1;w22;w3;").done("hear(1, 1, true)").times(5, "hear(0, 0, true)").is("couldBe()", 0b010000);
        desk(named, "r1;w22;").done("hear(0, 0, false)").is("couldBe()", 0);
    }

    private static void ask() {
        EDGES.part("3");
        String best = "the greatest part that is alike is least";
        StringBuilder text = new StringBuilder("r1;");
        for (int w = 0; w < 6; w++) {
            text.append(PARTING[w]);
            desk(best, text.toString()).is("ask()", w == 0 ? NONE : w);
        }
        desk(best, "r1;" + PARTING[5] + PARTING[4] + PARTING[3] + PARTING[2]).is("ask()", 0);
        desk(best, "r1;" + PARTING[3] + PARTING[4] + PARTING[2]).is("ask()", 1);
        // Of the kinds that are left alone: 0, 2, 3, 5 say 13 of 3; by 13 these are 3 and 1, by 0000 as well, by 00001 2, 1, 1.
        desk(best, "r1;w3;w13;w0000;w00001;").done("hear(0, 1, true)").is("ask()", 3);
        desk(best, "r1;w3;w13;w0000;").done("hear(0, 1, true)").is("ask()", 1);
        desk("of like ones the least", "r1;w22;w31;w42;w31;").is("ask()", 1);
        desk("of like ones the least", "r1;w3;w3;w3;w3;w3;w3;").is("ask()", 0);
        String none = "NONE: none parts them.";
        sentence(none).is("ask()", NONE);
        desk(none, "r1;").is("ask()", NONE).desk("r1;w22;").is("ask()", NONE).desk("r1;w22;w333;").is("ask()", NONE);
        desk(none, "r1;w3;w3;w31;").done("hear(0, 1, true)").is("couldBe()", 0b010000).is("ask()", NONE);
        desk(none, "r1;w3;w3;w31;").done("hear(0, 1, true)", "hear(0, 1, false)").is("couldBe()", 0).is("ask()", NONE);
        // All but one who says no ones are left, and they say 1 alike.
        desk(none, "r1;w1;").is("ask()", 0).done("hear(0, 0, false)").is("couldBe()", 0b101111).is("ask()", NONE);
        desk(none, "r1;w1;w44;").done("hear(0, 0, false)").is("ask()", 1);
    }

    private static void book() {
        EDGES.part("3");
        desk("THE BOOK (20 at most)", "r1;").times(19, "write(0, 1)").is("write(0, 2)", 20).holds("write(0, 1)", FULL).is("told(12)", 20).is("judge()", 19);
        String tells = "tells which FIGURE is at a PLACE (0 .. 59; NONE: none)";
        desk(tells, "r5" + "1".repeat(58) + "6;").done("write(0, 5)", "write(59, 6)").is("judge()", NONE).done("write(59, NONE)").is("judge()", 2);
        desk(tells, "r5" + "1".repeat(58) + ";").done("write(59, NONE)").is("judge()", NONE).done("write(58, NONE)").is("judge()", 1);
        sentence(tells).done("write(0, NONE)", "write(59, NONE)").is("judge()", NONE).done("write(0, 0)").is("judge()", 2);
        String wrong = "WRONG: the first that is otherwise now; NONE.";
        sentence(wrong).is("judge()", NONE);
        desk(wrong, "r12;").done("write(0, 1)", "write(1, 3)", "write(0, 9)").is("judge()", 1).done("change(1, 3)").is("judge()", 2).done("change(0, 9)")
            .is("judge()", 0).done("undo(2)").is("judge()", 1).done("drop(2)").is("judge()", 0);
        desk(wrong, "r12;").done("write(2, NONE)").is("judge()", NONE).done("put(0)").is("judge()", 0).done("undo(1)").is("judge()", NONE);
    }

    // ---- promises 28 to 33

    private static void hear() {
        EDGES.part("Promise 28");
        busy("HEARD: how much.").is("hear(0, 1, true)", 1).is("hear(1, 0, false)", 2).is("hear(1, 1, true)", 3).is("told(13)", 2);
        String[] wrong = {"-1", "2", "6", "LEAST", "GREATEST"};
        for (String w : wrong) {
            busy("UNKNOWN").holds("hear(" + w + ", 0, true)", UNKNOWN).holds("hear(0, " + w + ", false)", UNKNOWN).holds("hear(" + w + ", " + w + ", true)", UNKNOWN);
            busy("UNKNOWN, FULL (6)").times(6, "hear(0, 1, true)").holds("hear(" + w + ", 0, true)", UNKNOWN).holds("hear(0, " + w + ", true)", UNKNOWN);
        }
        sentence("UNKNOWN").holds("hear(0, 0, true)", UNKNOWN).desk("r1;").holds("hear(0, 0, false)", UNKNOWN).desk("r1;w1;w1;w1;w1;w1;w1;")
            .is("hear(5, 5, true)", 1).holds("hear(6, 5, true)", UNKNOWN).holds("hear(5, 6, true)", UNKNOWN);
        busy("FULL (6)").times(5, "hear(0, 1, true)").is("hear(0, 1, true)", 6).holds("hear(0, 1, true)", FULL).holds("hear(1, 1, false)", FULL)
            .is("tear()", 6).is("hear(0, 1, true)", 1);
    }

    private static void couldBeAndAsk() {
        EDGES.part("Promise 29");
        busy("COULD BE").holds("couldBe()", ALL_KINDS).done("hear(0, 1, true)").holds("couldBe()", 0b101101).done("hear(0, 1, false)").holds("couldBe()", 0);
        EDGES.part("Promise 30");
        busy("ASK").holds("ask()", 1);
        busy("NONE").done("hear(0, 0, true)").holds("ask()", NONE).desk("r1;").holds("ask()", NONE);
        sentence("NONE").holds("ask()", NONE);
    }

    private static void writeAndJudgeAndTear() {
        EDGES.part("Promise 31");
        String entry = "An entry behind THE BOOK (PLACE 0 .. 59; a FIGURE, or NONE): how many.";
        busy(entry).is("write(0, 0)", 1).is("write(59, 9)", 2).is("write(59, NONE)", 3).is("told(12)", 3).is("told(13)", 2);
        sentence(entry).is("write(59, 0)", 1).is("write(0, NONE)", 2);
        String[] outside = {"-1, 0", "60, 0", "LEAST, 0", "GREATEST, 0", "0, -2", "0, 10", "0, LEAST", "0, GREATEST", "-1, -2", "60, 10"};
        for (String wrong : outside) {
            busy("OUTSIDE").holds("write(" + wrong + ")", OUTSIDE);
            busy("OUTSIDE, FULL (20)").times(20, "write(0, 1)").holds("write(" + wrong + ")", OUTSIDE);
        }
        busy("FULL (20)").times(19, "write(0, 1)").is("write(0, 1)", 20).holds("write(0, 1)", FULL).holds("write(59, NONE)", FULL).is("tear()", 20)
            .is("write(0, 1)", 1);
        EDGES.part("Promise 32");
        busy("WRONG").done("write(0, 3)", "write(0, 4)").holds("judge()", 1).done("write(1, 0)").holds("judge()", 1);
        busy("NONE").holds("judge()", NONE).done("write(0, 3)").holds("judge()", NONE).done("tear()").holds("judge()", NONE);
        EDGES.part("Promise 33");
        sentence("Nothing HEARD, no BOOK: how much both had.").is("tear()", 0).done("write(0, NONE)").is("tear()", 1).is("tear()", 0);
        busy("Nothing HEARD, no BOOK: how much both had.").times(7, "hear(0, 0, true)").times(21, "write(0, 9)").is("couldBe()", 0b010000).is("judge()", 0)
            .is("tear()", 26).is("told(11)", 0).is("told(12)", 0).is("couldBe()", ALL_KINDS).is("judge()", NONE).is("tear()", 0).is("told(13)", 2)
            .is("told(2)", 2).is("told(4)", 1);
    }

    public static void main(String[] args) {
        heard();
        couldBe();
        ask();
        book();
        hear();
        couldBeAndAsk();
        writeAndJudgeAndTear();
        EDGES.complete(28, 33);
        EDGES.end();
    }
}
