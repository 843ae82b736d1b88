/** The edges of what section 3 of the document tries on the row, and of promises 18 to 27: each sentence by itself. */
public final class TriedEdgesTest {
    private static final int NONE = RowsAloud.NONE, UNKNOWN = RowsAloud.UNKNOWN, OUTSIDE = RowsAloud.OUTSIDE;
    private static final int BILLION = 1000000000;
    /** Figures that nobody says as how many: behind any number of readings these runs stay sixty rows by themselves. */
    private static final String SIXTY_RUNS = "45".repeat(30);
    private static final String[] WRONG = {"-1", "LEAST", "GREATEST"};
    private static final Edges EDGES = new Edges("TriedEdgesTest");

    private static Edge sentence(String sentence) {
        return EDGES.sentence(sentence);
    }

    private static Edge row(String sentence, String row) {
        return sentence(sentence).desk("r" + row + ";");
    }

    /** A desk on which there is something of everything, its row being 1412. */
    private static Edge busy(String sentence) {
        return sentence(sentence).desk("r42;w14;w7;").done("keep(0)", "put(8)", "seed(5)", "keep(1)", "drop(1)", "read(0)")
            .done("hear(0, 1, false)", "write(0, 1)", "write(1, 0)", "seed(77)");
    }

    private static void outside(Edge edge, String call, String... more) {
        for (String wrong : WRONG) {
            edge.holds(call.replace("?", wrong), OUTSIDE);
        }
        for (String wrong : more) {
            edge.holds(call.replace("?", wrong), OUTSIDE);
        }
    }

    // ---- section 3: rows that are read on

    private static void nothingChanges() {
        EDGES.part("3");
        busy("nothing changes by it").row("1412").holds("length(0, 8)", 52).holds("figure(1, 8, 61)", 1).holds("often(2, 8, 4)", 1).holds("first(3, 3)", 2)
            .holds("again(0)", 6).holds("again(1)", 5).holds("apart(0)", 1).holds("apart(1)", 2).holds("apart(2)", 2).holds("back(0)", 2)
            .holds("back(1)", 4).holds("in(0)", 0).holds("changes(1)", 4).holds("noSlip(60, 100)", BILLION).row("1412");
    }

    private static void readOn() {
        EDGES.part("3");
        Edge longer = row("rows are as long as they are then", SIXTY_RUNS);
        int[] sizes = {60, 120, 240, 240, 360, 600, 720, 840, 1320};
        for (int n = 0; n <= 8; n++) {
            longer.is("length(0, " + n + ")", sizes[n]);
        }
        longer.holds("figure(0, 8, 1319)", 5).holds("figure(0, 8, 1320)", NONE).is("often(0, 8, 5)", 30).is("often(0, 8, 4)", 30).row(SIXTY_RUNS);
        for (int kind = 0; kind <= 5; kind++) {
            row("n READINGS are 0 to 8", "3211").is("length(" + kind + ", 0)", 4).is("figure(" + kind + ", 0, 3)", 1).is("figure(" + kind + ", 0, 4)", NONE)
                .is("often(" + kind + ", 0, 1)", 2).is("first(" + kind + ", 3)", 0);
            sentence("LONG: how many FIGURES THE ROW has behind n READINGS.").is("length(" + kind + ", 0)", 0).is("length(" + kind + ", 8)", 0);
            sentence("NONE: there is none.").is("figure(" + kind + ", 0, 0)", NONE).is("figure(" + kind + ", 8, 0)", NONE);
            sentence("OFTEN: how often a FIGURE is in it then.").is("often(" + kind + ", 0, 0)", 0).is("often(" + kind + ", 8, 9)", 0);
        }
        row("LONG: how many FIGURES THE ROW has behind n READINGS.", "1").is("length(0, 1)", 2).is("length(0, 8)", 14).is("length(4, 8)", 1);
        row("WHAT: the FIGURE at a PLACE (0 .. 15359) then", "1").is("figure(0, 8, 0)", 3).is("figure(0, 8, 13)", 1).is("figure(0, 8, 14)", NONE)
            .is("figure(0, 8, 15359)", NONE);
        row("NONE: there is none.", "1").is("figure(4, 8, 0)", 1).is("figure(4, 8, 1)", NONE).is("figure(0, 0, 15359)", NONE);
        row("OFTEN: how often a FIGURE is in it then.", "0".repeat(60)).is("often(0, 0, 0)", 60).is("often(0, 0, 9)", 0).is("often(0, 1, 9)", 6)
            .is("often(0, 1, 0)", 7).is("often(5, 1, 0)", 1).is("often(3, 1, 6)", 1);
    }

    private static void saidFirst() {
        EDGES.part("3");
        String first = "FIRST: behind how many READINGS a FIGURE is in it first";
        row(first, "1").is("first(0, 1)", 0).is("first(0, 2)", 2).is("first(0, 3)", 5);
        row(first, "70").is("first(3, 0)", 0).is("first(3, 7)", 0).is("first(3, 1)", 1).is("first(3, 8)", 8);
        String none = "NONE: in none of 8.";
        row(none, "1").is("first(0, 0)", NONE).is("first(0, 4)", NONE).is("first(4, 2)", NONE);
        // By a counter a 9 is said of 80 behind nine readings first: one more than are tried.
        row(none, "80").is("first(3, 9)", NONE).done("read(3)").is("first(3, 9)", 8);
        for (int kind = 0; kind <= 5; kind++) {
            sentence(none).is("first(" + kind + ", 0)", NONE).is("first(" + kind + ", 9)", NONE);
        }
    }

    private static void comesAgain() {
        EDGES.part("3");
        String named = "AGAIN: behind how many READINGS by KIND 3 (1 .. 60) THE ROW is first as it was behind another number of READINGS";
        sentence(named).is("again(0)", 1).is("again(1)", 0);
        row(named, "22").is("again(0)", 1).is("again(1)", 0);
        row(named, "1").is("again(0)", 13).is("again(1)", 12);
        // The latest that any row came again of all that were tried: two rows that lead to each other, behind twenty others.
        row(named, "0".repeat(18)).is("again(0)", 22).is("again(1)", 20);
        // In none of 60 is what no row of all that were tried does: each comes again, and as one of those ahead.
        EDGES.sentence("NONE: in none of 60.");
        for (int n = 0; n < 600; n++) {
            RowsAloud x = Checks.desk("r" + String.valueOf(n % 10).repeat(1 + n / 10) + ";");
            EDGES.checks.holds("again(0) is 1 .. 60 of row " + n, x.again(0) >= 1 && x.again(0) <= 60);
            EDGES.checks.holds("again(1) is ahead of it of row " + n, x.again(1) >= 0 && x.again(1) < x.again(0));
        }
        String which = "and behind which (the rows being all unlike till then)";
        row(which, "614213141516271819").is("again(0)", 2).is("again(1)", 0).done("read(3)").is("again(0)", 2).is("again(1)", 0);
        row(which, "10512223142516").is("again(0)", 3).is("again(1)", 0);
        row(which, "121300422131021432100").is("again(0)", 9).is("again(1)", 6).done("read(3)").is("again(0)", 8).is("again(1)", 5);
        row(which, "0".repeat(60)).is("again(0)", 18).is("again(1)", 16);
    }

    // ---- section 3: where it falls apart, how far back it goes

    private static Edge apart(String sentence, String row, int many, int first, int longest) {
        return row(sentence, row).is("apart(0)", many).is("apart(1)", first).is("apart(2)", longest);
    }

    private static void fallsApart() {
        EDGES.part("3");
        apart("a PLACE (not 0)", "1", 0, NONE, 1);
        apart("a PLACE (not 0)", "23", 1, 1, 1);
        String six = "behind each of 1 to 6 READINGS by KIND 0 the whole is what is ahead of the PLACE";
        // Each row has one place, and the whole is first another than its two parts behind 1, 2, .. 9 readings.
        String[] rows = {"11", "12", "21", "32", "311", "31", "3211", "3112", "3133"};
        int[] places = {0, 0, 0, 0, 0, 0, 1, 1, 1};
        for (int n = 0; n < rows.length; n++) {
            row(six, rows[n]).is("apart(1)", places[n] == 0 ? NONE : 1);
        }
        apart(six, "0".repeat(9), 0, NONE, 9);
        apart(six, "0".repeat(10), 1, 9, 9);
        apart(six, "0".repeat(60), 6, 9, 9);
        apart(six, "1".repeat(18), 0, NONE, 18);
        apart("How many such PLACES there are; the first", SIXTY_RUNS, 59, 1, 1);
        apart("How many such PLACES there are; the first", "22" + "0".repeat(11), 2, 2, 9);
        String longest = "how many FIGURES the longest part between them has";
        apart(longest, "2" + "5".repeat(8) + "4", 2, 1, 8);
        apart(longest, "5".repeat(8) + "4", 1, 8, 8);
        apart(longest, "2" + "5".repeat(8), 1, 1, 8);
        apart("(all, if there are none; 0 without FIGURES)", "1".repeat(60), 0, NONE, 60);
        sentence("(all, if there are none; 0 without FIGURES)").is("apart(0)", 0).is("apart(1)", NONE).is("apart(2)", 0);
        row("(all, if there are none; 0 without FIGURES)", "1").done("drop(1)").is("apart(0)", 0).is("apart(1)", NONE).is("apart(2)", 0);
    }

    private static Edge back(String sentence, String row, int times, int oldest) {
        return row(sentence, row).is("back(0)", times).is("back(1)", oldest);
    }

    private static void goesBack() {
        EDGES.part("3");
        String nobody = "how often THE ROW can be UNREAD, one time behind the other, before nobody could have said it";
        back(nobody, "1", 0, 1);
        back(nobody, "11", 1, 1);
        back(nobody, "01", 0, 2);
        back(nobody, "1121", 0, 4);
        back(nobody, "12".repeat(29) + "1", 0, 59);
        // Twelve readings of 1 and of 0: a thirteenth would have more than 60 figures.
        row(nobody, "1").times(12, "read(0)").is("told(1)", 46).is("back(0)", 12).is("back(1)", 1);
        row(nobody, "0").times(12, "read(0)").is("told(1)", 56).is("back(0)", 12).is("back(1)", 1);
        String sixty = "or a row would have more than 60 FIGURES";
        back(sixty, "90".repeat(6) + "60", 1, 60);
        back(sixty, "90".repeat(6) + "70", 0, 14);
        back(sixty, "19" + "90".repeat(5) + "69", 1, 52);
        row(sixty, "90".repeat(6) + "70").done("read(0)").is("back(0)", 1).is("back(1)", 14);
        row(sixty, "90".repeat(6) + "60").done("read(0)").is("back(0)", 2).is("back(1)", 60);
        back("or it is UNREAD to itself (the row that reads itself; counted no more then)", "22", 0, 2);
        // The row that reads itself, with one behind it: that one is unread, and then it is another row.
        back("or it is UNREAD to itself (the row that reads itself; counted no more then)", "2213", 1, 3);
        sentence("or empty (0 .. 60)").is("back(0)", 0).is("back(1)", 0);
        row("or empty (0 .. 60)", "1").done("drop(1)").is("back(0)", 0).is("back(1)", 0);
    }

    // ---- section 3: runs, words, odds

    private static void runs() {
        EDGES.part("3");
        row("RUNS of THE ROW: how many; the longest (HOW MANY)", "1").is("told(6)", 1).is("told(7)", 1).is("told(8)", 1);
        row("RUNS of THE ROW: how many; the longest (HOW MANY)", "1" + "0".repeat(59)).is("told(6)", 2).is("told(7)", 59).is("told(8)", 0);
        row("RUNS of THE ROW: how many; the longest (HOW MANY)", "1" + "9".repeat(10)).is("told(7)", 10).is("told(8)", 9);
        // A run of the same figure stood there shortly before: it is no part of this one.
        row("RUNS of THE ROW: how many; the longest (HOW MANY)", "1211131").is("told(6)", 5).is("told(7)", 3).is("told(8)", 1);
        row("(of like ones the first RUN)", "1223311").is("told(6)", 4).is("told(7)", 2).is("told(8)", 2);
        row("(of like ones the first RUN)", "9876543210").is("told(7)", 1).is("told(8)", 9);
        row("(of like ones the first RUN)", "112221333").is("told(7)", 3).is("told(8)", 2);
        sentence("which FIGURE it is of (of like ones the first RUN); NONE.").is("told(6)", 0).is("told(7)", NONE).is("told(8)", NONE);
    }

    private static void words() {
        EDGES.part("3");
        String in = "IN: the first PLACE at which a WORD stands in THE ROW; NONE.";
        sentence(in).desk("r" + "1".repeat(52) + "12345678;w12345678;w1;w8;w11111112;w123456;w9;").is("in(0)", 52).is("in(1)", 0).is("in(2)", 59)
            .is("in(3)", 46).is("in(4)", 52).is("in(5)", NONE);
        sentence(in).desk("r121121;w121;w1121;w121121;w1211212;w22;w1211211;").is("in(0)", 0).is("in(1)", 2).is("in(2)", 0).is("in(3)", NONE)
            .is("in(4)", NONE).is("in(5)", NONE).done("drop(6)").is("in(0)", NONE);
        String ways = "WAYS to tell THE ROW by WORDS side by side (an empty one: 1): how many, a BILLION at most.";
        sentence(ways).is("told(10)", 1).desk("r1;").is("told(10)", 0).done("drop(1)").is("told(10)", 1);
        sentence(ways).desk("r1;w1;w2;").is("told(10)", 1).done("put(3)").is("told(10)", 0).done("drop(2)").is("told(10)", 1);
        // By 1 and 11, each figure more has as many ways as the two rows ahead of it.
        sentence(ways).desk("r" + "1".repeat(43) + ";w1;w11;").is("told(10)", 701408733).done("put(1)").is("told(10)", BILLION).done("put(2)")
            .is("told(10)", 0).done("drop(3)").is("told(10)", 433494437);
        sentence(ways).desk("r" + "1".repeat(60) + ";w1;w11;w111;w1111;w11111;w111111;").is("told(10)", BILLION);
        sentence(ways).desk("r" + "12345678".repeat(7) + "1234;w12345678;w1234;").is("told(10)", 1).done("drop(1)").is("told(10)", 0);
    }

    private static void changes() {
        EDGES.part("3");
        String named = "CHANGES: the fewest FIGURES to be put in, taken out or changed, so that THE ROW is a WORD.";
        sentence(named).desk("r1234;w1234;w91234;w12349;w12934;w123;w234;").is("changes(0)", 0).is("changes(1)", 1).is("changes(2)", 1).is("changes(3)", 1)
            .is("changes(4)", 1).is("changes(5)", 1);
        sentence(named).desk("r1234;w1934;w9234;w1239;w9;w2341;w4321;").is("changes(0)", 1).is("changes(1)", 1).is("changes(2)", 1).is("changes(3)", 4)
            .is("changes(4)", 2).is("changes(5)", 4);
        sentence(named).desk("r1;w1;w12345678;").done("drop(1)").is("changes(0)", 1).is("changes(1)", 8);
        sentence(named).desk("r" + "1".repeat(60) + ";w2;w22222222;w1;w11111111;w12121212;").is("changes(0)", 60).is("changes(1)", 60).is("changes(2)", 59)
            .is("changes(3)", 52).is("changes(4)", 56);
    }

    private static void odds() {
        EDGES.part("3");
        sentence("odds of n READINGS (0 .. 60) without a slip").is("noSlip(0, 0)", BILLION).is("noSlip(0, 50)", BILLION).is("noSlip(0, 100)", BILLION)
            .is("noSlip(60, 99)", 547156620).is("noSlip(60, 100)", BILLION);
        sentence("each by q of a hundred (0 .. 100)").is("noSlip(1, 0)", 0).is("noSlip(60, 0)", 0).is("noSlip(1, 1)", 10000000).is("noSlip(1, 99)", 990000000)
            .is("noSlip(1, 100)", BILLION);
        // Cut each time: cut but once at the end they would be 612709757, 117464, 3.
        sentence("a BILLION times q / 100 each (cut)").is("noSlip(12, 96)", 612709753).is("noSlip(60, 86)", 117460).is("noSlip(4, 1)", 10).is("noSlip(5, 1)", 0);
    }

    // ---- promises 18 to 27

    private static void promises18To21() {
        EDGES.part("Promise 18");
        busy("LONG").holds("length(0, 0)", 4).holds("length(5, 8)", 52).holds("length(0, 8)", 52).holds("length(5, 0)", 4);
        outside(busy("OUTSIDE"), "length(?, 0)", "6");
        outside(busy("OUTSIDE"), "length(0, ?)", "9");
        outside(busy("OUTSIDE"), "length(?, ?)", "9");
        EDGES.part("Promise 19");
        busy("WHAT").holds("figure(0, 0, 0)", 1).holds("figure(5, 0, 3)", 2).holds("figure(0, 8, 51)", 2);
        busy("NONE").holds("figure(0, 0, 4)", NONE).holds("figure(5, 8, 52)", NONE).holds("figure(5, 8, 15359)", NONE);
        outside(busy("OUTSIDE"), "figure(?, 0, 0)", "6");
        outside(busy("OUTSIDE"), "figure(0, ?, 0)", "9");
        outside(busy("OUTSIDE"), "figure(0, 0, ?)", "15360");
        EDGES.part("Promise 20");
        busy("OFTEN").holds("often(0, 0, 0)", 0).holds("often(0, 0, 1)", 2).holds("often(5, 8, 4)", 1).holds("often(5, 8, 9)", 0);
        outside(busy("OUTSIDE"), "often(?, 0, 0)", "6");
        outside(busy("OUTSIDE"), "often(0, ?, 0)", "9");
        outside(busy("OUTSIDE"), "often(0, 0, ?)", "10");
        EDGES.part("Promise 21");
        busy("FIRST").holds("first(0, 1)", 0).holds("first(5, 4)", 0).holds("first(3, 3)", 2);
        busy("NONE").holds("first(0, 0)", NONE).holds("first(5, 9)", NONE);
        outside(busy("OUTSIDE"), "first(?, 0)", "6");
        outside(busy("OUTSIDE"), "first(0, ?)", "10");
    }

    private static void promises22To24() {
        EDGES.part("Promise 22");
        busy("what = 0 behind how many, 1 behind which").holds("again(0)", 6).holds("again(1)", 5);
        outside(busy("OUTSIDE"), "again(?)", "2");
        EDGES.part("Promise 23");
        busy("what = 0 how many, 1 the first, 2 the longest part").holds("apart(0)", 1).holds("apart(1)", 2).holds("apart(2)", 2);
        row("NONE", "1").holds("apart(1)", NONE).done("drop(1)").holds("apart(1)", NONE);
        outside(busy("OUTSIDE"), "apart(?)", "3");
        EDGES.part("Promise 24");
        busy("what = 0 how often, 1 FIGURES of the oldest").holds("back(0)", 2).holds("back(1)", 4);
        outside(busy("OUTSIDE"), "back(?)", "2");
    }

    private static void promises25To27() {
        String[] unknown = {"-1", "2", "6", "LEAST", "GREATEST"};
        EDGES.part("Promise 25");
        busy("IN").holds("in(0)", 0);
        busy("NONE").holds("in(1)", NONE);
        for (String w : unknown) {
            busy("UNKNOWN").holds("in(" + w + ")", UNKNOWN);
        }
        sentence("UNKNOWN").holds("in(0)", UNKNOWN).desk("r1;").holds("in(0)", UNKNOWN).desk("r1;w1;w1;w1;w1;w1;w1;").holds("in(5)", 0).holds("in(6)", UNKNOWN);
        EDGES.part("Promise 26");
        busy("CHANGES").holds("changes(0)", 2).holds("changes(1)", 4);
        for (String w : unknown) {
            busy("UNKNOWN").holds("changes(" + w + ")", UNKNOWN);
        }
        sentence("UNKNOWN").holds("changes(0)", UNKNOWN).desk("r1;").holds("changes(0)", UNKNOWN).desk("r1;w1;w1;w1;w1;w1;w2;").holds("changes(5)", 1)
            .holds("changes(6)", UNKNOWN);
        EDGES.part("Promise 27");
        busy("NO SLIP").holds("noSlip(0, 0)", BILLION).holds("noSlip(60, 100)", BILLION).holds("noSlip(2, 50)", 250000000);
        outside(busy("OUTSIDE"), "noSlip(?, 0)", "61");
        outside(busy("OUTSIDE"), "noSlip(0, ?)", "101");
        outside(busy("OUTSIDE"), "noSlip(?, ?)", "101");
    }

    public static void main(String[] args) {
        nothingChanges();
        readOn();
        saidFirst();
        comesAgain();
        fallsApart();
        goesBack();
        runs();
        words();
        changes();
        odds();
        promises18To21();
        promises22To24();
        promises25To27();
        EDGES.complete(18, 27);
        EDGES.end();
    }
}
