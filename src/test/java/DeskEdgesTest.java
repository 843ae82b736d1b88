/** The edges of section 1 of the document, and of its promises 1 to 8: each sentence that names one, by itself. */
public final class DeskEdgesTest {
    private static final int NONE = RowsAloud.NONE, UNKNOWN = RowsAloud.UNKNOWN, OUTSIDE = RowsAloud.OUTSIDE, NOT = RowsAloud.NOT,
        FULL = RowsAloud.FULL;
    private static final int BILLION = 1000000000;
    private static final String SIX_WORDS = "w1;w1;w1;w1;w1;w1;";
    private static final Edges EDGES = new Edges("DeskEdgesTest");

    private static Edge sentence(String sentence) {
        return EDGES.sentence(sentence);
    }

    /** A desk on which there is something of everything. */
    private static Edge busy(String sentence) {
        return sentence(sentence).desk("r987;w98;w7;").done("read(0)", "keep(0)", "read(1)", "seed(5)", "keep(1)", "put(3)", "turn()")
            .done("hear(0, 1, false)", "write(0, 3)", "write(1, 3)", "seed(77)");
    }

    private static String sixty() {
        return "9".repeat(60);
    }

    // ---- section 1

    private static void theText() {
        EDGES.part("1");
        sentence("a text (240 letters at most)").fed("r1;" + " ".repeat(236)).is("feed(32)", 240).is("desk()", 1);
        sentence("a text (240 letters at most)").fed("r1;" + " ".repeat(237)).holds("feed(120)", FULL).is("desk()", 1).is("fault()", NONE);
        sentence("a text (240 letters at most)").faulty(" ".repeat(239) + "x", 1, 239).faulty(" ".repeat(239) + "r", 1, 240);

        sentence("'r' and 1 to 60 FIGURES ';'").faultless("r0;", "0").faultless("r" + sixty() + ";", sixty());
        busy("'r' and 1 to 60 FIGURES ';'").faulty("r;", 1, 1).faulty("r" + sixty() + "9;", 2, 61);
        busy("(THE ROW; first, once)").faulty("w1;r1;", 1, 0).faulty("r1;r1;", 3, 3).faultless("r1;w2;", "1");

        sentence("'w' and 1 to 8 FIGURES ';'").faultless("r1;w0;w12345678;", "1").is("spelt(0, 0)", 0).is("spelt(0, 1)", NONE)
            .is("spelt(1, 0)", 1).is("spelt(1, 7)", 8);
        busy("'w' and 1 to 8 FIGURES ';'").faulty("r1;w;", 1, 4).faulty("r1;w123456789;", 2, 12);
        sentence("(6 WORDS at most)").faultless("r1;", "1").is("told(2)", 0).faultless("r1;" + SIX_WORDS, "1").is("told(2)", 6);
        busy("(6 WORDS at most)").faulty("r1;" + SIX_WORDS + "w1;", 3, 21);

        sentence("FIGURES are the letters 0 to 9.").faultless("r0123456789;", "0123456789");
        busy("FIGURES are the letters 0 to 9.").faulty("r/;", 1, 1).faulty("r:;", 1, 1).faulty("r1;w/;", 1, 4).faulty("r1;w:;", 1, 4)
            .faulty("r" + (char) 178 + ";", 1, 1).faulty("rA;", 1, 1);
    }

    private static void blanks() {
        EDGES.part("1");
        sentence("Blanks (32) may stand anywhere.").faultless("  r  1  2  ;  w  3  4  ;  w  5  ;  ", "12").is("told(2)", 2)
            .is("spelt(0, 0)", 3).is("spelt(0, 1)", 4).is("spelt(0, 2)", NONE).is("spelt(1, 0)", 5);
        int[] others = {0, 9, 10, 13, 31, 33, 95, 127, 128, 160, 255};
        for (int letter : others) {
            sentence("Blanks (32) may stand anywhere.").faulty((char) letter + "r1;", 1, 0).faulty("r" + (char) letter + "1;", 1, 1)
                .faulty("r1" + (char) letter + ";", 1, 2).faulty("r1;" + (char) letter, 1, 3);
        }
        // Blanks are letters of the text, and so the fault's letter counts them.
        sentence("Blanks (32) may stand anywhere.").faulty("   x", 1, 3).faulty(" r ;", 1, 3).faulty("r1 2 ; w 1 r", 1, 11);
    }

    private static void whereTheFaultIs() {
        EDGES.part("1");
        busy("at the first letter that has one").faulty("xy", 1, 0).faulty("r1;x;r1;", 1, 3).faulty("r1;r1;x", 3, 3)
            .faulty("r" + sixty() + "1x", 2, 61);
        busy("(the end at the text's length)").faulty("r", 1, 1).faulty("r1", 1, 2).faulty("r " + sixty(), 1, 62).faulty("r1;w", 1, 4)
            .faulty("r1;w1", 1, 5).faulty("r1;w12345678", 1, 12).faulty("r1  ", 1, 4).faulty("r  ", 1, 3);
        // In the midst of a clause an 'r' is a letter that cannot stand there ahead of being one too many.
        busy("of these the least").faulty("rr1;", 1, 1).faulty("r1r", 1, 2).faulty("r1;wr", 1, 4).faulty("r1;w1r", 1, 5)
            .faulty("r1;" + SIX_WORDS.substring(0, 17) + "w", 1, 20).faulty("r" + sixty() + "r", 1, 61).faulty("r1;w12345678w", 1, 12);
    }

    /** Every letter there is, at each kind of place: all but those that may stand there are fault 1. */
    private static void whatCannotStand() {
        EDGES.part("1");
        String[] begins = {"", "r", "r1", "r" + sixty(), "r1;", "r1;w", "r1;w1", "r1;w12345678", "r1;" + SIX_WORDS};
        String[] others = {"r", "0123456789", "0123456789;", "0123456789;", "rw", "0123456789", "0123456789;", "0123456789;", "rw"};
        String named = "1 it cannot stand there (a letter that is no FIGURE, no ';' where one is due";
        for (int i = 0; i < begins.length; i++) {
            for (char letter = 0; letter < 256; letter++) {
                if (letter != ' ' && others[i].indexOf(letter) < 0) {
                    sentence(named).fed(begins[i] + letter).is("desk()", -11).is("fault()", begins[i].length());
                }
            }
        }
        busy("another word first than 'r'").faulty("w1;", 1, 0).faulty(" w1;r1;", 1, 1).faulty("1;", 1, 0).faulty(";", 1, 0).faulty("R1;", 1, 0);
        busy("a ';' ahead of any FIGURE").faulty("r;", 1, 1).faulty("r ;", 1, 2).faulty("r1;w;", 1, 4).faulty("r1;;", 1, 3).faulty(";r1;", 1, 0);
    }

    private static void oneTooMany() {
        EDGES.part("1");
        busy("2 a 61st FIGURE of 'r', a ninth of 'w' (at it)").faulty("r" + sixty() + "0", 2, 61).faulty("r" + sixty() + "  0;", 2, 63)
            .faultless("r" + sixty() + "  ;", sixty());
        busy("2 a 61st FIGURE of 'r', a ninth of 'w' (at it)").faulty("r1;w123456789", 2, 12).faulty("r1;w12345678 9;", 2, 13)
            .faulty("r1;w1;w000000000;", 2, 15).faultless("r1;w12345678 ;", "1");
        busy("3 'r' again, a seventh 'w' (at it)").faulty("r1;r", 3, 3).faulty("r1; r2;", 3, 4).faulty("r1;w1;r", 3, 6)
            .faulty("r1;" + SIX_WORDS + "r", 3, 21);
        busy("3 'r' again, a seventh 'w' (at it)").faulty("r1;" + SIX_WORDS + "w", 3, 21).faulty("r1;" + SIX_WORDS + " w1;", 3, 22)
            .faultless("r1;" + SIX_WORDS + " ", "1");
    }

    private static void noText() {
        EDGES.part("1");
        String named = "An empty text (or one of blanks alone): no DESK, THE ROW is empty.";
        for (String text : new String[] {"", " ", " ".repeat(240)}) {
            sentence(named).faultless(text, "").is("told(1)", 0).is("told(2)", 0).is("at(0)", NONE);
            busy(named).faultless(text, "").is("told(1)", 0).is("told(2)", 0).is("spelt(0, 0)", UNKNOWN).is("at(0)", NONE);
        }
    }

    // ---- promises 1 to 8

    private static void newObject() {
        EDGES.part("Promise 1");
        Edge edge = sentence("No DESK: THE ROW is empty.").holds("fault()", NONE);
        int[] told = {0, 0, 0, 0, 0, 0, 0, NONE, NONE, 0, 1, 0, 0, 0};
        for (int what = 0; what < told.length; what++) {
            edge.holds("told(" + what + ")", told[what]);
        }
        edge.holds("at(0)", NONE).holds("at(59)", NONE).holds("spelt(0, 0)", UNKNOWN).holds("logged(0, 0)", NONE).holds("word(0)", UNKNOWN)
            .holds("in(0)", UNKNOWN).holds("changes(0)", UNKNOWN).holds("hear(0, 0, true)", UNKNOWN).holds("undo(1)", NOT)
            .holds("goBack(0)", NOT).holds("goBack(1)", NOT).holds("couldBe()", 63).holds("ask()", NONE).holds("judge()", NONE)
            .holds("drop(1)", OUTSIDE).holds("change(0, 0)", UNKNOWN).is("tear()", 0).is("seed(0)", 0);
    }

    private static void feed() {
        EDGES.part("Promise 2");
        sentence("A letter (0 .. 255) comes behind THE TEXT: how many it has.").is("feed(0)", 1).is("feed(255)", 2).is("told(3)", 2);
        busy("OUTSIDE").holds("feed(-1)", OUTSIDE).holds("feed(256)", OUTSIDE).holds("feed(LEAST)", OUTSIDE).holds("feed(GREATEST)", OUTSIDE);
        busy("FULL (240)").fed(" ".repeat(239)).is("feed(32)", 240).holds("feed(32)", FULL).holds("feed(0)", FULL).holds("feed(255)", FULL)
            .is("told(3)", 240).is("desk()", 0).is("feed(32)", 1);
        sentence("OUTSIDE, FULL").fed("x".repeat(240)).holds("feed(256)", OUTSIDE).holds("feed(-1)", OUTSIDE);
    }

    private static void desk() {
        EDGES.part("Promise 3");
        busy("THE TEXT (it is empty then, with a FAULT, too)").fed("r1;").is("desk()", 1).is("told(3)", 0).is("feed(32)", 1);
        busy("THE TEXT (it is empty then, with a FAULT, too)").fed("r1;q").is("desk()", -11).is("told(3)", 0).fed("r2;").is("desk()", 1).row("2");
        sentence("THE TEXT (it is empty then, with a FAULT, too)").fed("x".repeat(240)).is("desk()", -11).is("feed(32)", 1);
        busy("(READINGS 0, THE LOG is empty;").is("told(4)", 2).is("told(5)", 2).desk("r5;").is("told(4)", 0).is("told(5)", 0)
            .is("logged(0, 0)", NONE).is("logged(0, 1)", NONE).done("read(3)").is("told(4)", 1).is("told(5)", 1).is("logged(1, 0)", NONE);
        busy("nothing HEARD, no BOOK;").done("hear(0, 0, true)").is("couldBe()", 16).is("judge()", 1).desk("r5;w1;").is("told(11)", 0)
            .is("told(12)", 0).is("couldBe()", 63).is("judge()", NONE).is("tear()", 0).is("hear(0, 0, true)", 1).is("write(0, 5)", 1);
        busy("IMAGES, what could be undone are gone;").is("told(13)", 2).desk("r5;").is("told(13)", 0).holds("undo(1)", NOT)
            .holds("goBack(0)", NOT).holds("goBack(1)", NOT);
        busy("IMAGES, what could be undone are gone;").desk("").is("told(13)", 0).holds("undo(1)", NOT).holds("goBack(0)", NOT).holds("goBack(1)", NOT);
        busy("THE SEED stays)").desk("r5;").is("seed(0)", 77);
        busy("THE SEED stays)").desk("").is("seed(0)", 77);
        sentence("how many FIGURES").is("desk()", 0).fed("r0;").is("desk()", 1).fed("r" + sixty() + ";w1;").is("desk()", 60);
        busy("-10 less the number of its FAULT (all is as it was)").faulty("q", 1, 0);
        busy("-10 less the number of its FAULT (all is as it was)").faulty("r" + sixty() + "9;", 2, 61);
        busy("-10 less the number of its FAULT (all is as it was)").faulty("r4;w4;r", 3, 6).is("told(13)", 2).is("undo(2)", 12).is("goBack(0)", 1);
        sentence("-10 less the number of its FAULT (all is as it was)").faulty("r4", 1, 2).is("told(0)", 0).is("told(1)", 0);
        // A desk takes the place of the one that was: no word and no figure of it is left.
        busy("becomes THE DESK").is("told(2)", 2).desk("r5;w6;").row("5").is("told(2)", 1).is("spelt(0, 0)", 6).is("spelt(0, 1)", NONE)
            .is("spelt(1, 0)", UNKNOWN);
    }

    private static void fault() {
        EDGES.part("Promise 4");
        sentence("NONE").holds("fault()", NONE).fed("q").holds("fault()", NONE).done("desk()").is("fault()", 0);
        busy("The letter of the FAULT of the latest desk()").holds("fault()", NONE).desk(" ".repeat(239) + "r").holds("fault()", 240)
            .fed("x").holds("fault()", 240).done("desk()").holds("fault()", 0).desk("r1;").holds("fault()", NONE);
        sentence("NONE").desk("r1").is("fault()", 2).desk("").is("fault()", NONE).desk("r1").is("fault()", 2).desk("  ").is("fault()", NONE);
    }

    private static void told() {
        EDGES.part("Promise 5");
        sentence("0 1 there is a DESK, 0 not").holds("told(0)", 0).done("put(1)").is("told(0)", 0).desk("r1;").holds("told(0)", 1)
            .done("drop(1)").is("told(0)", 1).desk("").is("told(0)", 0);
        sentence("1 FIGURES of THE ROW").holds("told(1)", 0).desk("r" + "1".repeat(59) + ";").is("told(1)", 59).done("put(0)").holds("told(1)", 60);
        sentence("2 WORDS").desk("r1;").holds("told(2)", 0).desk("r1;" + SIX_WORDS).holds("told(2)", 6);
        sentence("3 letters of THE TEXT").holds("told(3)", 0).fed(" ".repeat(240)).holds("told(3)", 240).done("feed(32)").is("told(3)", 240);
        sentence("4 READINGS").desk("r22;").holds("told(4)", 0).times(21, "read(0)").holds("told(4)", 21).done("unread()").is("told(4)", 21);
        sentence("5 how many THE LOG has").desk("r22;").holds("told(5)", 0).times(19, "read(0)").is("told(5)", 19).done("read(0)").is("told(5)", 20)
            .done("read(0)").holds("told(5)", 20);
        sentence("6 RUNS, 7 the longest, 8 which FIGURE it is of").desk("r" + sixty() + ";").holds("told(6)", 1).holds("told(7)", 60).holds("told(8)", 9)
            .desk("r" + "01".repeat(30) + ";").is("told(6)", 60).is("told(7)", 1).is("told(8)", 0);
        sentence("(7, 8: NONE)").holds("told(6)", 0).holds("told(7)", NONE).holds("told(8)", NONE).desk("r0;").is("told(7)", 1).is("told(8)", 0)
            .done("drop(1)").is("told(6)", 0).is("told(7)", NONE).is("told(8)", NONE);
        sentence("9 unlike FIGURES in it (how many)").holds("told(9)", 0).desk("r" + sixty() + ";").is("told(9)", 1).desk("r01234567890;").holds("told(9)", 10);
        sentence("10 WAYS").holds("told(10)", 1).desk("r1;").holds("told(10)", 0).desk("r1;w1;").is("told(10)", 1)
            .desk("r" + sixty() + ";w9;w99;").holds("told(10)", BILLION);
        sentence("11 what is HEARD").desk("r1;w1;").holds("told(11)", 0).times(6, "hear(0, 0, true)").holds("told(11)", 6)
            .done("hear(0, 0, true)").is("told(11)", 6);
        sentence("12 entries of THE BOOK").holds("told(12)", 0).times(20, "write(0, 0)").holds("told(12)", 20).done("write(0, 0)").is("told(12)", 20);
        sentence("13 how many can be undone").holds("told(13)", 0).times(29, "put(1)").is("told(13)", 29).done("put(1)").is("told(13)", 30)
            .done("put(1)").holds("told(13)", 30);
        busy("OUTSIDE").holds("told(-1)", OUTSIDE).holds("told(14)", OUTSIDE).holds("told(LEAST)", OUTSIDE).holds("told(GREATEST)", OUTSIDE);
    }

    private static void at() {
        EDGES.part("Promise 6");
        sentence("The FIGURE at a PLACE (0 .. 59)").desk("r8" + "1".repeat(58) + "0;").holds("at(0)", 8).holds("at(59)", 0);
        sentence("NONE").holds("at(0)", NONE).holds("at(59)", NONE).desk("r" + sixty() + ";").done("drop(1)").is("at(58)", 9).holds("at(59)", NONE)
            .done("drop(59)").is("at(0)", NONE);
        busy("OUTSIDE").holds("at(-1)", OUTSIDE).holds("at(60)", OUTSIDE).holds("at(LEAST)", OUTSIDE).holds("at(GREATEST)", OUTSIDE);
        sentence("OUTSIDE").is("at(-1)", OUTSIDE).is("at(60)", OUTSIDE);
    }

    private static void spelt() {
        EDGES.part("Promise 7");
        sentence("FIGURE k (0 .. 7) of a WORD").desk("r1;w1;w1;w1;w1;w1;w90000002;").holds("spelt(5, 0)", 9).holds("spelt(5, 1)", 0).holds("spelt(5, 7)", 2);
        sentence("NONE").desk("r1;w1;w1234567;").holds("spelt(0, 1)", NONE).holds("spelt(0, 7)", NONE).is("spelt(1, 6)", 7).holds("spelt(1, 7)", NONE);
        busy("UNKNOWN").is("spelt(1, 0)", 7).holds("spelt(2, 0)", UNKNOWN).holds("spelt(-1, 0)", UNKNOWN).holds("spelt(6, 0)", UNKNOWN)
            .holds("spelt(LEAST, 0)", UNKNOWN).holds("spelt(GREATEST, 0)", UNKNOWN);
        busy("OUTSIDE").holds("spelt(0, -1)", OUTSIDE).holds("spelt(0, 8)", OUTSIDE).holds("spelt(0, LEAST)", OUTSIDE).holds("spelt(0, GREATEST)", OUTSIDE);
        busy("UNKNOWN, OUTSIDE").holds("spelt(2, 8)", UNKNOWN).holds("spelt(-1, -1)", UNKNOWN);
        sentence("UNKNOWN").holds("spelt(0, 0)", UNKNOWN).desk("r1;").holds("spelt(0, 0)", UNKNOWN).desk("r1;" + SIX_WORDS).is("spelt(5, 0)", 1)
            .is("spelt(6, 0)", UNKNOWN);
    }

    private static void logged() {
        EDGES.part("Promise 8");
        sentence("Of THE LOG, 0 the latest: what = 0 KIND, 1 FIGURES").desk("r7;").done("read(0)", "read(1)", "read(5)").holds("logged(0, 0)", 5).holds("logged(1, 0)", 1)
            .holds("logged(2, 0)", 0).is("logged(0, 1)", 4).is("logged(1, 1)", 2).is("logged(2, 1)", 1);
        sentence("Of THE LOG, 0 the latest").desk("r22;").done("read(1)", "read(5)").times(18, "read(0)").is("logged(18, 0)", 5).is("logged(19, 0)", 1)
            .done("read(4)").is("logged(0, 0)", 4).holds("logged(19, 0)", 5).is("logged(19, 1)", 2).is("logged(20, 0)", NONE);
        busy("NONE").is("logged(1, 0)", 0).holds("logged(2, 0)", NONE).holds("logged(2, 1)", NONE).holds("logged(-1, 0)", NONE).holds("logged(-1, 1)", NONE)
            .holds("logged(LEAST, 0)", NONE).holds("logged(GREATEST, 1)", NONE);
        sentence("NONE").holds("logged(0, 0)", NONE).holds("logged(0, 1)", NONE);
        busy("OUTSIDE (what)").holds("logged(0, -1)", OUTSIDE).holds("logged(0, 2)", OUTSIDE).holds("logged(0, LEAST)", OUTSIDE)
            .holds("logged(0, GREATEST)", OUTSIDE).holds("logged(2, 2)", OUTSIDE).holds("logged(-1, -1)", OUTSIDE);
    }

    public static void main(String[] args) {
        theText();
        blanks();
        whereTheFaultIs();
        whatCannotStand();
        oneTooMany();
        noText();
        newObject();
        feed();
        desk();
        fault();
        told();
        at();
        spelt();
        logged();
        EDGES.complete(2, 8);
        EDGES.end();
    }
}
