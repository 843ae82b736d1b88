/** The edges of section 2 of the document, of deeds by draws and undone, and of promises 9 to 17: each sentence by itself. */
public final class DeedsEdgesTest {
    private static final int NONE = RowsAloud.NONE, UNKNOWN = RowsAloud.UNKNOWN, OUTSIDE = RowsAloud.OUTSIDE, NOT = RowsAloud.NOT,
        FULL = RowsAloud.FULL;
    private static final String SIXTY_RUNS = "12".repeat(30);
    private static final Edges EDGES = new Edges("DeedsEdgesTest");

    private static Edge sentence(String sentence) {
        return EDGES.sentence(sentence);
    }

    private static Edge row(String sentence, String row) {
        return sentence(sentence).desk("r" + row + ";");
    }

    /** A full row, behind some deeds, with an image and a seed. */
    private static Edge full(String sentence) {
        return sentence(sentence).desk("r" + "12".repeat(29) + ";w3;w12345678;").done("keep(1)", "put(1)", "turn()", "turn()", "put(2)", "seed(77)");
    }

    // ---- section 2

    private static void theRow() {
        EDGES.part("2");
        sentence("THE ROW has 0 to 60 FIGURES, at PLACES 0 on.").is("told(1)", 0).is("at(0)", NONE).times(59, "put(8)").is("put(7)", 60)
            .is("at(0)", 8).is("at(59)", 7).holds("put(8)", FULL).is("drop(60)", 0).is("at(0)", NONE);
        row("A RUN: like FIGURES side by side, as many as there are.", "1").is("told(6)", 1).is("told(7)", 1)
            .desk("r11211;").is("told(6)", 3).is("told(7)", 2).desk("r" + SIXTY_RUNS + ";").is("told(6)", 60)
            .desk("r" + "0".repeat(60) + ";").is("told(6)", 1).is("told(7)", 60);
    }

    private static void inParts() {
        EDGES.part("2");
        int[] many = {8, 9, 10, 11, 17, 18, 19, 27, 54, 55, 59, 60};
        String[] said = {"87", "97", "9717", "9727", "9787", "9797", "979717", "979797", "97".repeat(6), "97".repeat(6) + "17",
            "97".repeat(6) + "57", "97".repeat(6) + "67"};
        for (int i = 0; i < many.length; i++) {
            String sevens = "7".repeat(many[i]);
            for (int kind : new int[] {0, 2, 3}) {
                row("HOW MANY above 9 is said in parts", sevens).reads(kind, said[i]);
            }
            row("HOW MANY above 9 is said in parts", sevens).reads(1, said[i].replaceAll("(.)(.)", "$2$1"));
        }
        String named = "9 of it, as often as there are 9, then the rest, if there is one";
        row(named, "0".repeat(18)).reads(0, "9090");
        row(named, "0".repeat(19)).reads(0, "909010");
        row(named, "0".repeat(19)).reads(1, "090901");
        // From behind the runs come the other way round, but a run's nines still come ahead of its rest.
        row(named, "1" + "0".repeat(10) + "2").reads(2, "12901011");
        row(named, "20".repeat(10) + "2").reads(3, "90109222");
        row(named, "0".repeat(60)).reads(5, "30");
    }

    private static void kinds() {
        EDGES.part("2");
        row("0 (plain): RUN by RUN from PLACE 0 on: HOW MANY, which FIGURE.", "0").reads(0, "10").reads(0, "1110").reads(0, "3110");
        row("0 (plain): RUN by RUN from PLACE 0 on: HOW MANY, which FIGURE.", "900").reads(0, "1920");
        row("1 (turned): likewise, but which, HOW MANY.", "0").reads(1, "01").reads(1, "0111").reads(1, "0113");
        row("1 (turned): likewise, but which, HOW MANY.", "900").reads(1, "9102");
        row("2 (from behind): as 0, but RUN by RUN from the last PLACE on.", "0").reads(2, "10").reads(2, "1011");
        row("2 (from behind): as 0, but RUN by RUN from the last PLACE on.", "900").reads(2, "2019");
        String counter = "3 (a counter): of each FIGURE that there is in THE ROW, rising: HOW MANY in all, which.";
        row(counter, "0").reads(3, "10").reads(3, "1011").reads(3, "1031");
        row(counter, "900900").reads(3, "4029");
        row(counter, "9876543210").reads(3, "10111213141516171819");
        row(counter, "2" + "31".repeat(10)).reads(3, "9111129313");
        String ones = "4 (one who says no ones): as 0, but a RUN (a part) of one as the FIGURE alone.";
        row(ones, "0").reads(4, "0").reads(4, "0");
        row(ones, "100").reads(4, "120");
        row(ones, "0".repeat(10)).reads(4, "900");
        row(ones, "0".repeat(19) + "1").reads(4, "909001");
        row(ones, "0".repeat(11)).reads(4, "9020");
        row(ones, SIXTY_RUNS).reads(4, SIXTY_RUNS);
        String haste = "5 (one in haste): as 0, but a RUN of three or more as 3 of it.";
        String[] said = {"17", "27", "37", "37"};
        for (int many = 1; many <= 4; many++) {
            row(haste, "7".repeat(many)).reads(5, said[many - 1]);
        }
        for (int many : new int[] {9, 10, 18, 60}) {
            row(haste, "7".repeat(many)).reads(5, "37");
        }
        row(haste, "1223334444").reads(5, "11223334");
    }

    private static void readings() {
        EDGES.part("2");
        for (int kind = 0; kind <= 5; kind++) {
            sentence("An empty row is read as an empty one.").reads(kind, "").is("told(4)", 1).is("logged(0, 0)", kind).is("logged(0, 1)", 0)
                .is("told(13)", 1);
        }
        row("READINGS (0 at first) are one more", "22").is("told(4)", 0).done("read(0)").is("told(4)", 1).times(40, "read(3)").is("told(4)", 41);
        Edge log = row("THE LOG keeps the latest 20: KIND, how many FIGURES THE ROW had ahead of it.", "0".repeat(60)).done("read(5)")
            .is("logged(0, 0)", 5).is("logged(0, 1)", 60).times(18, "read(4)").is("told(5)", 19).is("logged(18, 1)", 60).done("read(4)")
            .is("told(5)", 20).is("logged(19, 0)", 5).is("logged(19, 1)", 60).done("read(1)").is("told(5)", 20).is("logged(19, 0)", 4)
            .is("logged(19, 1)", 2).is("logged(20, 0)", NONE).is("logged(0, 0)", 1);
        log.done("drop(4)", "read(0)").is("logged(0, 1)", 0).is("logged(1, 0)", 1);
    }

    private static void unsaid() {
        EDGES.part("2");
        String pairs = "it is told in pairs, HOW MANY and which";
        row(pairs, "10").is("unread()", 1).row("0");
        row(pairs, "1").holds("unread()", NOT);
        row(pairs, "111").holds("unread()", NOT);
        row(pairs, "12".repeat(29) + "1").holds("unread()", NOT);
        row(pairs, "1213").is("unread()", 2).row("23").is("unread()", 2).row("33").is("unread()", 3).row("333").holds("unread()", NOT);
        String zero = "HOW MANY is never 0";
        for (String row : new String[] {"01", "00", "0112", "1201", "121301"}) {
            row(zero, row).holds("unread()", NOT);
        }
        row(zero, "101210").is("unread()", 3).row("020");
        String same = "the same FIGURE comes in two pairs side by side just if the first says 9";
        row(same, "9717").is("unread()", 10).row("7".repeat(10));
        row(same, "9797").is("unread()", 18).row("7".repeat(18));
        row(same, "979717").is("unread()", 19).row("7".repeat(19));
        row(same, "9718").is("unread()", 10).row("7".repeat(9) + "8");
        row(same, "171817").is("unread()", 3).row("787");
        for (String row : new String[] {"8717", "1717", "1797", "971717", "971727", "121397" + "8797", "97" + "1888"}) {
            row(same, row).holds("unread()", NOT);
        }
        sentence("(an empty row: an empty one)").is("unread()", 0).row("").is("told(13)", 1).is("told(4)", 0).is("told(5)", 0);
        row("UNREAD: THE ROW is the one whose READING by KIND 0 it is", "1321").is("unread()", 3).row("311").is("told(4)", 0).is("told(5)", 0)
            .reads(0, "1321");
    }

    private static void otherDeeds() {
        EDGES.part("2");
        sentence("PUT: a FIGURE, or the FIGURES of a WORD, behind THE ROW.").desk("r1;w0;w98765432;").done("put(0)", "word(1)", "word(0)").row("10987654320");
        sentence("PUT: a FIGURE, or the FIGURES of a WORD, behind THE ROW.").done("put(9)").row("9");
        row("CHANGED: the FIGURE at a PLACE is another.", "123").done("change(0, 9)", "change(2, 0)").row("920").done("change(1, 2)").row("920");
        row("DROPPED: the last n FIGURES go.", "123").done("drop(0)").row("123").done("drop(1)").row("12").done("drop(2)").row("");
        row("TURNED: THE ROW stands the other way round.", "1").done("turn()").row("1").desk("r12;").done("turn()").row("21")
            .desk("r123;").done("turn()").row("321").desk("r" + "1".repeat(59) + "2;").done("turn()").row("2" + "1".repeat(59));
        sentence("TURNED: THE ROW stands the other way round.").done("turn()").row("");
    }

    // ---- by draws, undone

    private static Edge drawn(String sentence, String row, int... draws) {
        return sentence(sentence).desk(row.isEmpty() ? "" : "r" + row + ";").done("seed(" + Draws.start(draws) + ")");
    }

    private static void byDraws() {
        EDGES.part("3");
        row("THE SEED (0 at first: each DRAW it becomes it times 1103515245 and 12345", "1").is("drift(1)", 2).is("seed(0)", 12345);
        // A draw of 8 each time, and one of 10 on 6: 3, then 6 and 5 of 10, then 7 and 1 of 6 (five figures, and 1).
        drawn("n times: a DRAW of 8", "1".repeat(10), 8, 3, 8, 6, 10, 5, 8, 7, 6, 1).is("drift(3)", 4).row("9111").is("told(4)", 1).is("told(13)", 3)
            .is("undo(1)", 5).row("91115").is("undo(1)", 4).row("9111").is("undo(1)", 10);
        // The greatest seed is one less than 2 to the 31, and so the next is 12345 less 1103515245, and 2 to the 31.
        row("left over by 2 to the 31", "5").done("seed(GREATEST)").is("drift(1)", 2).row("51").is("logged(0, 0)", 1).is("seed(0)", 1043980748);
        // 2207042835 is more than 2 to the 31, by 59559187: of 908 by 8 it leaves 4.
        row("left over by 2 to the 31", "55").done("seed(2)").is("drift(1)", 2).row("25").is("logged(0, 0)", 4).is("seed(0)", 59559187);
        // Behind 1 comes 1103527590: 16838 by 8 leaves 6. Behind it comes 377401575: 5758 by 10 leaves 8.
        row("the DRAW of n is it / 65536, left over by n", "5").done("seed(1)").is("drift(1)", 2).row("58").is("seed(0)", 377401575);
    }

    private static void readByDraws() {
        EDGES.part("3");
        String named = "on 0 to 5 THE ROW is READ by that KIND, if there will be 60 FIGURES or fewer";
        String[] said = {"13913123", "31191332", "23913113", "913133", "3913123", "133123"};
        for (int kind = 0; kind <= 5; kind++) {
            drawn(named, "3" + "1".repeat(12) + "33", 8, kind).is("drift(1)", said[kind].length()).row(said[kind]).is("told(4)", 1)
                .is("logged(0, 0)", kind).is("logged(0, 1)", 15)
                .is("seed(0)", Draws.behind(Draws.start(8, kind), 1));
        }
        drawn(named, "12".repeat(15), 8, 0).is("drift(1)", 60).is("told(4)", 1);
        drawn(named, "12".repeat(15) + "1", 8, 0).is("drift(1)", 31).row("12".repeat(15) + "1").is("told(4)", 0).is("told(5)", 0).is("told(13)", 1);
        drawn(named, "12".repeat(15) + "1", 8, 5).is("drift(1)", 31).is("told(4)", 0).is("seed(0)", Draws.behind(Draws.start(8, 5), 1));
        drawn(named, "", 8, 2).is("drift(1)", 0).is("told(4)", 1).is("logged(0, 0)", 2).is("logged(0, 1)", 0);
    }

    private static void putAndDroppedByDraws() {
        EDGES.part("3");
        String put = "on 6 a DRAW of 10 is PUT behind, if there are fewer than 60";
        for (int figure : new int[] {0, 9}) {
            drawn(put, "5", 8, 6, 10, figure).is("drift(1)", 2).row("5" + figure).is("told(4)", 0).is("seed(0)", Draws.behind(Draws.start(8, 6, 10, figure), 2));
            drawn(put, "", 8, 6, 10, figure).is("drift(1)", 1).row("" + figure);
            drawn(put, "5".repeat(59), 8, 6, 10, figure).is("drift(1)", 60).row("5".repeat(59) + figure);
        }
        drawn(put, "5".repeat(60), 8, 6, 10, 4).is("drift(1)", 60).row("5".repeat(60)).is("told(13)", 1)
            .is("seed(0)", Draws.behind(Draws.start(8, 6, 10, 4), 1));
        String dropped = "on 7 a DRAW of as many FIGURES as there are, and 1: so many are DROPPED.";
        drawn(dropped, "5678", 8, 7, 5, 0).is("drift(1)", 4).row("5678").is("told(13)", 1);
        drawn(dropped, "5678", 8, 7, 5, 1).is("drift(1)", 3).row("567");
        drawn(dropped, "5678", 8, 7, 5, 4).is("drift(1)", 0).row("").is("told(4)", 0).is("seed(0)", Draws.behind(Draws.start(8, 7, 5, 4), 2));
        drawn(dropped, SIXTY_RUNS, 8, 7, 61, 60).is("drift(1)", 0);
        drawn(dropped, SIXTY_RUNS, 8, 7, 61, 0).is("drift(1)", 60);
        drawn(dropped, "", 8, 7, 1, 0).is("drift(1)", 0).is("told(13)", 1).is("seed(0)", Draws.behind(Draws.start(8, 7), 2));
    }

    private static void undone() {
        EDGES.part("3");
        String[] deeds = {"read(0)", "unread()", "put(0)", "word(0)", "change(0, 2)", "drop(0)", "turn()", "drift(1)"};
        for (String deed : deeds) {
            sentence("the latest deeds (read(), unread(), put(), word(), change(), drop(), turn(), each of the times BY DRAWS)").desk("r1213;w8;")
                .is("told(13)", 0).done(deed).is("told(13)", 1).is("undo(1)", 4).row("1213").is("told(4)", 0).is("told(5)", 0).is("told(13)", 0);
        }
        // On a full row 6 and readings do nothing: each of the times is still one that can be undone.
        drawn("each of the times BY DRAWS", SIXTY_RUNS, 8, 6, 8, 0).done("drift(2)").row(SIXTY_RUNS).is("told(13)", 2).is("undo(2)", 60).is("told(13)", 0);
        sentence("each of the times BY DRAWS").done("drift(20)").is("told(13)", 20).done("drift(10)").is("told(13)", 30).done("drift(1)").is("told(13)", 30);
        row("since the text or IMAGE", "1").done("put(2)").desk("r3;").is("told(13)", 0).holds("undo(1)", NOT);
        row("since the text or IMAGE", "1").done("put(2)", "keep(0)").is("told(13)", 0).holds("undo(1)", NOT).done("put(3)").is("undo(1)", 2).row("12");
        row("since the text or IMAGE", "1").done("keep(0)", "put(2)", "goBack(0)").is("told(13)", 0).holds("undo(1)", NOT).done("put(3)")
            .is("undo(1)", 1).row("1");
        row("(30 at most are kept)", "5").times(29, "put(1)").is("told(13)", 29).is("undo(29)", 1).row("5");
        row("(30 at most are kept)", "5").times(30, "put(1)").is("told(13)", 30).is("undo(30)", 1).row("5");
        row("(30 at most are kept)", "5").times(31, "put(1)").is("told(13)", 30).is("undo(30)", 2).row("51").holds("undo(1)", NOT);
        row("(30 at most are kept)", "5").times(59, "put(1)").is("told(13)", 30).is("undo(30)", 30).holds("undo(1)", NOT)
            .times(30, "put(2)").is("told(13)", 30).is("undo(30)", 30).row("5" + "1".repeat(29));
        row("all of section 2 is as ahead of them", "22").times(20, "read(1)").done("put(3)", "read(0)").is("logged(0, 1)", 3).is("logged(19, 0)", 1)
            .is("told(4)", 21).is("undo(1)", 3).row("223").is("told(4)", 20).is("told(5)", 20).is("logged(0, 0)", 1).is("logged(0, 1)", 2)
            .is("logged(19, 0)", 1).is("undo(1)", 2).row("22");
        row("all of section 2 is as ahead of them", "22").done("read(4)").times(19, "read(5)").done("read(0)").is("logged(19, 0)", 5).is("undo(1)", 2)
            .is("logged(19, 0)", 4).is("told(5)", 20).is("undo(20)", 2).is("told(5)", 0).is("logged(0, 0)", NONE);
        row("all of section 2 is as ahead of them", "0".repeat(60)).done("read(5)").times(19, "read(4)").is("logged(19, 1)", 60).done("read(1)")
            .is("logged(19, 1)", 2).is("undo(1)", 2).is("logged(19, 0)", 5).is("logged(19, 1)", 60).is("logged(18, 1)", 2);
        row("THE SEED stays", "1").done("seed(9)", "drift(1)").is("undo(1)", 1).is("seed(0)", Draws.behind(9, Draws.draw(Draws.next(9), 8) < 6 ? 1 : 2));
    }

    // ---- promises 9 to 17

    private static void read() {
        EDGES.part("Promise 9");
        row("READ by KIND (0 .. 5): FIGURES then.", "300").is("read(0)", 4).row("1320").is("read(5)", 8).row("11131210");
        full("OUTSIDE").holds("read(-1)", OUTSIDE).holds("read(6)", OUTSIDE).holds("read(LEAST)", OUTSIDE).holds("read(GREATEST)", OUTSIDE);
        for (int kind : new int[] {0, 1, 2, 5}) {
            row("FULL: there would be more than 60", "12".repeat(15)).is("read(" + kind + ")", 60).is("told(4)", 1);
            row("FULL: there would be more than 60", "12".repeat(15) + "1").holds("read(" + kind + ")", FULL).is("told(4)", 0).is("told(13)", 0);
            full("FULL: there would be more than 60").holds("read(" + kind + ")", FULL);
        }
        full("FULL: there would be more than 60").is("read(4)", 60);
        full("FULL: there would be more than 60").is("read(3)", 16).row("9191913192929232");
    }

    /** No run of 512 calls comes to so many readings; the class keeps the bound all the same. */
    private static void readingsFull() {
        RowsAloud x = Checks.desk("r22;");
        for (int n = 0; n < 89999; n++) {
            x.read(0);
        }
        EDGES.part("Promise 9");
        EDGES.checks.holds("READINGS are 90000 or more", Document.says("Promise 9", "READINGS are 90000 or more"));
        EDGES.checks.due("read(1), the 90000th", x.read(1), 2);
        String before = Checks.all(x);
        EDGES.checks.due("read(1) behind 90000", x.read(1), FULL);
        EDGES.checks.due("read(6) behind 90000", x.read(6), OUTSIDE);
        EDGES.part("Promise 16");
        EDGES.asked("drift(1)", FULL);
        EDGES.checks.holds("READINGS are 90000 or more", Document.says("Promise 16", "FULL: READINGS are 90000 or more"));
        EDGES.checks.due("drift(1) behind 90000", x.drift(1), FULL);
        EDGES.checks.due("drift(20) behind 90000", x.drift(20), FULL);
        EDGES.checks.due("drift(21) behind 90000", x.drift(21), OUTSIDE);
        EDGES.checks.due("all behind what was refused", Checks.all(x), before);
        EDGES.checks.due("one is undone", x.undo(1), 2);
        x.seed(Draws.start(8, 3));
        EDGES.checks.due("drift(1) behind 89999", x.drift(1), 2);
        EDGES.checks.due("readings", x.told(4), 90000);
    }

    private static void unread() {
        EDGES.part("Promise 10");
        row("UNREAD: FIGURES then.", "11").is("unread()", 1).row("1").is("told(13)", 1);
        sentence("UNREAD: FIGURES then.").is("unread()", 0);
        full("NOT: nobody could have said it").holds("unread()", NOT);
        row("NOT: nobody could have said it", "0").holds("unread()", NOT);
        row("FULL: there would be more than 60", "90".repeat(6) + "60").is("unread()", 60).row("0".repeat(60));
        row("FULL: there would be more than 60", "90".repeat(6) + "70").holds("unread()", FULL);
        row("FULL: there would be more than 60", "91929394959697").holds("unread()", FULL);
        row("FULL: there would be more than 60", "9192".repeat(15)).holds("unread()", FULL);
        row("NOT: nobody could have said it; FULL", "9192".repeat(14) + "9101").holds("unread()", NOT);
        row("NOT: nobody could have said it; FULL", "9192".repeat(14) + "919").holds("unread()", NOT);
        row("NOT: nobody could have said it; FULL", "9192".repeat(14) + "1323").holds("unread()", NOT);
        row("NOT: nobody could have said it; FULL", "9192".repeat(14) + "1324").holds("unread()", FULL);
    }

    private static void putAndWord() {
        EDGES.part("Promise 11");
        row("PUT (a FIGURE, 0 .. 9): FIGURES.", "5").is("put(0)", 2).is("put(9)", 3).row("509");
        row("OUTSIDE", "5").holds("put(-1)", OUTSIDE).holds("put(10)", OUTSIDE).holds("put(LEAST)", OUTSIDE).holds("put(GREATEST)", OUTSIDE);
        row("FULL (60)", "5".repeat(59)).is("put(5)", 60).holds("put(5)", FULL).done("drop(1)").is("put(5)", 60);
        full("OUTSIDE, FULL").holds("put(10)", OUTSIDE).holds("put(-1)", OUTSIDE).holds("put(0)", FULL).holds("put(9)", FULL);
        EDGES.part("Promise 12");
        sentence("A WORD is PUT: FIGURES.").desk("r5;w1;w2;w3;w4;w5;w60000006;").is("word(0)", 2).is("word(5)", 10).row("5160000006");
        sentence("UNKNOWN").holds("word(0)", UNKNOWN).desk("r5;").holds("word(0)", UNKNOWN).desk("r5;w1;w2;w3;w4;w5;w6;").holds("word(6)", UNKNOWN)
            .holds("word(-1)", UNKNOWN).holds("word(LEAST)", UNKNOWN).holds("word(GREATEST)", UNKNOWN).is("word(5)", 2);
        sentence("FULL: there would be more than 60").desk("r" + "1".repeat(52) + ";w12345678;w9;").is("word(0)", 60).holds("word(1)", FULL).holds("word(0)", FULL);
        sentence("FULL: there would be more than 60").desk("r" + "1".repeat(53) + ";w12345678;w9;").holds("word(0)", FULL).times(6, "word(1)")
            .is("word(1)", 60).holds("word(1)", FULL);
        full("UNKNOWN, FULL").holds("word(2)", UNKNOWN).holds("word(-1)", UNKNOWN).holds("word(0)", FULL).holds("word(1)", FULL);
    }

    private static void changeAndDropAndTurn() {
        EDGES.part("Promise 13");
        row("CHANGED (a FIGURE, 0 .. 9): what it was.", "123").is("change(0, 0)", 1).is("change(2, 9)", 3).row("029").is("change(0, 0)", 0).is("told(13)", 3);
        row("CHANGED (a FIGURE, 0 .. 9): what it was.", "1".repeat(59) + "2").is("change(59, 3)", 2).is("at(59)", 3);
        row("UNKNOWN", "123").holds("change(-1, 1)", UNKNOWN).holds("change(3, 1)", UNKNOWN).holds("change(59, 1)", UNKNOWN).holds("change(60, 1)", UNKNOWN)
            .holds("change(LEAST, 1)", UNKNOWN).holds("change(GREATEST, 1)", UNKNOWN).done("drop(3)").holds("change(0, 1)", UNKNOWN);
        full("UNKNOWN").holds("change(60, 1)", UNKNOWN);
        full("OUTSIDE").holds("change(0, -1)", OUTSIDE).holds("change(0, 10)", OUTSIDE).holds("change(59, LEAST)", OUTSIDE).holds("change(59, GREATEST)", OUTSIDE);
        full("UNKNOWN, OUTSIDE").holds("change(60, 10)", UNKNOWN).holds("change(-1, -1)", UNKNOWN);
        EDGES.part("Promise 14");
        row("DROPPED (0 .. FIGURES): FIGURES.", "123").is("drop(0)", 3).is("drop(3)", 0).is("drop(0)", 0).is("told(13)", 3);
        full("DROPPED (0 .. FIGURES): FIGURES.").is("drop(60)", 0).row("");
        row("OUTSIDE", "123").holds("drop(-1)", OUTSIDE).holds("drop(4)", OUTSIDE).holds("drop(LEAST)", OUTSIDE).holds("drop(GREATEST)", OUTSIDE);
        full("OUTSIDE").holds("drop(61)", OUTSIDE).holds("drop(-1)", OUTSIDE).is("drop(59)", 1).holds("drop(2)", OUTSIDE).is("drop(1)", 0).holds("drop(1)", OUTSIDE);
        EDGES.part("Promise 15");
        row("TURNED: the FIGURE at PLACE 0 then", "120").is("turn()", 0).is("turn()", 1).desk("r7;").is("turn()", 7);
        full("TURNED: the FIGURE at PLACE 0 then").is("turn()", 2).row("21".repeat(30));
        sentence("(NONE)").is("turn()", NONE).is("told(13)", 1).desk("r1;").done("drop(1)").is("turn()", NONE);
    }

    private static void driftAndUndo() {
        EDGES.part("Promise 16");
        // From a seed of 0: read by 0, 4, 4, 5, 2, then a drop of 3 of 12: the seed's draws are written out in DeedsTest.
        row("n times BY DRAWS (1 .. 20): FIGURES.", "1222").is("drift(1)", 4).row("1132").is("told(13)", 1);
        row("n times BY DRAWS (1 .. 20): FIGURES.", "1222").is("drift(6)", 9).row("121113311").is("told(13)", 6).is("told(4)", 5);
        sentence("n times BY DRAWS (1 .. 20): FIGURES.").is("drift(20)", 1).row("3").is("told(13)", 20).is("seed(0)", 1511588075);
        full("OUTSIDE").holds("drift(0)", OUTSIDE).holds("drift(21)", OUTSIDE).holds("drift(-1)", OUTSIDE).holds("drift(LEAST)", OUTSIDE)
            .holds("drift(GREATEST)", OUTSIDE);
        EDGES.part("Promise 17");
        row("The n latest (1 .. 30) are undone: FIGURES.", "5").times(30, "put(1)").is("undo(1)", 30).is("told(13)", 29).done("put(2)").is("undo(30)", 1)
            .row("5").is("told(13)", 0);
        full("OUTSIDE").holds("undo(0)", OUTSIDE).holds("undo(31)", OUTSIDE).holds("undo(-1)", OUTSIDE).holds("undo(LEAST)", OUTSIDE)
            .holds("undo(GREATEST)", OUTSIDE);
        row("NOT: not so many", "5").holds("undo(1)", NOT).holds("undo(30)", NOT).done("put(1)", "put(2)").holds("undo(3)", NOT).holds("undo(30)", NOT)
            .is("undo(2)", 1).holds("undo(1)", NOT);
        row("NOT: not so many", "5").times(29, "put(1)").holds("undo(30)", NOT).done("put(1)").is("undo(30)", 1);
        row("OUTSIDE, NOT", "5").holds("undo(31)", OUTSIDE).holds("undo(0)", OUTSIDE);
    }

    public static void main(String[] args) {
        theRow();
        inParts();
        kinds();
        readings();
        unsaid();
        otherDeeds();
        byDraws();
        readByDraws();
        putAndDroppedByDraws();
        undone();
        read();
        readingsFull();
        unread();
        putAndWord();
        changeAndDropAndTurn();
        driftAndUndo();
        EDGES.complete(9, 17);
        EDGES.end();
    }
}
