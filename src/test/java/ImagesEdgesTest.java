/** The edges of what section 3 of the document says of the images, and of promises 34 to 36: each sentence by itself. */
public final class ImagesEdgesTest {
    private static final int NONE = RowsAloud.NONE, UNKNOWN = RowsAloud.UNKNOWN, OUTSIDE = RowsAloud.OUTSIDE, NOT = RowsAloud.NOT;
    private static final int GREATEST = Integer.MAX_VALUE;
    private static final String[] WRONG = {"-1", "2", "LEAST", "GREATEST"};
    private static final Edges EDGES = new Edges("ImagesEdgesTest");

    private static Edge sentence(String sentence) {
        return EDGES.sentence(sentence);
    }

    /** A desk on which there is something of everything but images, its row being 191817. */
    private static Edge busy(String sentence) {
        return sentence(sentence).desk("r987;w98;").done("read(0)", "put(3)", "drop(1)", "hear(0, 0, false)", "write(0, 9)", "seed(77)");
    }

    private static void images() {
        EDGES.part("3");
        String keep = "IMAGES 0, 1 keep all of section 2, THE SEED.";
        for (int i = 0; i <= 1; i++) {
            String back = "goBack(" + i + ")";
            // The log's twentieth, readings and the row come back as they were, from a row that went another way.
            sentence(keep).desk("r22;").done("read(1)").times(19, "read(5)").done("read(0)", "put(7)", "seed(8)", "keep(" + i + ")")
                .done("read(3)", "read(3)", "drop(2)", "seed(9)").is(back, 1).row("227").is("told(4)", 21).is("told(5)", 20).is("logged(0, 0)", 0)
                .is("logged(0, 1)", 2).is("logged(19, 0)", 5).is("logged(20, 0)", NONE).is("seed(0)", 8);
            sentence(keep).desk("r" + "0".repeat(60) + ";").done("read(5)").times(19, "read(4)").done("keep(" + i + ")", "read(1)").is("logged(19, 1)", 2)
                .is(back, 1).is("logged(19, 0)", 5).is("logged(19, 1)", 60);
            sentence(keep).done("keep(" + i + ")", "put(1)", "read(0)", "seed(9)").is(back, 1).row("").is("told(4)", 0).is("told(5)", 0).is("seed(0)", 0);
            sentence(keep).desk("r" + "12".repeat(30) + ";").done("seed(GREATEST)", "keep(" + i + ")", "drop(60)").is(back, 1).row("12".repeat(30))
                .is("seed(0)", GREATEST);
            // What is no part of section 2 stays as it is now.
            busy(keep).done("keep(" + i + ")", "hear(0, 0, true)", "write(1, 8)", "feed(32)").is(back, 1).is("told(11)", 2).is("told(12)", 2).is("told(3)", 1)
                .is("told(2)", 1).is("told(0)", 1);
        }
        // Each of the two is by itself, and can be gone back to again and again.
        sentence(keep).desk("r1;").done("keep(0)", "read(0)", "keep(1)", "read(0)").is("goBack(0)", 1).row("1").is("goBack(1)", 1).row("11").is("told(4)", 1)
            .done("put(5)").is("goBack(1)", 1).row("11").is("goBack(0)", 1).row("1").done("keep(1)", "put(9)").is("goBack(1)", 1).row("1").is("told(4)", 0);
        sentence(keep).desk("r1;").done("keep(0)", "put(2)", "goBack(0)", "put(3)", "goBack(0)").row("1");
    }

    private static void seed() {
        EDGES.part("Promise 34");
        sentence("THE SEED becomes v (0 .. 2147483647): what it was.").is("seed(2147483647)", 0).is("seed(0)", GREATEST).is("seed(1)", 0).is("seed(0)", 1);
        busy("THE SEED becomes v (0 .. 2147483647): what it was.").is("seed(5)", 77).is("told(13)", 3).is("undo(3)", 3).is("seed(0)", 5);
        busy("OUTSIDE").holds("seed(-1)", OUTSIDE).holds("seed(LEAST)", OUTSIDE).holds("seed(-2147483647)", OUTSIDE).is("seed(0)", 77);
    }

    private static void keep() {
        EDGES.part("Promise 35");
        for (int i = 0; i <= 1; i++) {
            busy("IMAGE i becomes what is so (nothing can be undone then): 1.").is("told(13)", 3).is("keep(" + i + ")", 1).is("told(13)", 0).holds("undo(1)", NOT)
                .row("191817").done("put(4)").is("told(13)", 1).holds("undo(2)", NOT).is("undo(1)", 6);
        }
        sentence("IMAGE i becomes what is so (nothing can be undone then): 1.").times(31, "put(1)").is("keep(0)", 1).is("keep(0)", 1).is("told(13)", 0)
            .times(30, "turn()").is("told(13)", 30);
        for (String wrong : WRONG) {
            busy("UNKNOWN").holds("keep(" + wrong + ")", UNKNOWN).is("told(13)", 3).is("undo(3)", 3);
        }
    }

    private static void goBack() {
        EDGES.part("Promise 36");
        for (int i = 0; i <= 1; i++) {
            String back = "goBack(" + i + ")";
            busy("What is so becomes IMAGE i (nothing can be undone then): 1.").done("keep(" + i + ")").times(31, "turn()").done("put(5)").is(back, 1).row("191817")
                .is("told(13)", 0).holds("undo(1)", NOT).is(back, 1).row("191817").is("seed(0)", 77);
            busy("NOT: it was not kept").holds(back, NOT).done("keep(" + (1 - i) + ")", "put(5)").holds(back, NOT).done("keep(" + i + ")").is(back, 1);
            busy("NOT: it was not kept").done("keep(0)", "keep(1)").desk("r5;").holds(back, NOT);
            busy("NOT: it was not kept").done("keep(0)", "keep(1)").desk("").holds(back, NOT);
            busy("NOT: it was not kept").done("keep(0)", "keep(1)", "put(1)").desk("q").is(back, 1).row("191817");
            sentence("NOT: it was not kept").holds(back, NOT);
        }
        for (String wrong : WRONG) {
            busy("UNKNOWN, NOT").holds("goBack(" + wrong + ")", UNKNOWN).done("keep(0)", "keep(1)", "put(1)").holds("goBack(" + wrong + ")", UNKNOWN);
        }
    }

    public static void main(String[] args) {
        images();
        seed();
        keep();
        goBack();
        EDGES.complete(34, 36);
        EDGES.end();
    }
}
