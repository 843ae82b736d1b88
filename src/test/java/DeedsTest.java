/** Promises 9 to 17: what is done with the row. */
public final class DeedsTest {
    private static final int NONE = RowsAloud.NONE, UNKNOWN = RowsAloud.UNKNOWN, OUTSIDE = RowsAloud.OUTSIDE, NOT = RowsAloud.NOT,
        FULL = RowsAloud.FULL;
    private static final Checks CHECKS = new Checks("DeedsTest");

    private static void due(String call, long got, long want) {
        CHECKS.due(call, got, want);
    }

    private static void reads(String row, int kind, String said) {
        RowsAloud x = Checks.desk("r" + row + ";");
        due("read(" + kind + ") of " + row, x.read(kind), said.length());
        CHECKS.due("the row behind read(" + kind + ") of " + row, Checks.row(x), said);
        due("readings", x.told(4), 1);
        due("kind in the log", x.logged(0, 0), kind);
        due("figures in the log", x.logged(0, 1), row.length());
        due("can be undone", x.told(13), 1);
    }

    /** The deed is refused, and all is as it was. */
    private static void refused(String call, RowsAloud x, String before, int got, int want) {
        due(call, got, want);
        CHECKS.due("all behind the refused " + call, Checks.all(x), before);
    }

    private static void promise9() {
        String[] plain = {"1", "11", "21", "1211", "111221", "312211", "13112221"};
        for (int n = 0; n + 1 < plain.length; n++) {
            reads(plain[n], 0, plain[n + 1]);
        }
        String twelve = Checks.times('7', 12);
        String ten = Checks.times('7', 10);
        String[][] said = {
            {"1122233", "213223", "122332", "233221", "213223", "213223", "213223"},
            {twelve + "0", "973710", "797301", "109737", "109737", "97370", "3710"},
            {ten, "9717", "7971", "9717", "9717", "977", "37"},
            {"10101", "1110111011", "1101110111", "1110111011", "2031", "10101", "1110111011"},
            {"3331", "3311", "3311", "1133", "1133", "331", "3311"},
            {"0000", "40", "04", "40", "40", "40", "30"}};
        for (String[] row : said) {
            for (int kind = 0; kind < 6; kind++) {
                reads(row[0], kind, row[kind + 1]);
            }
        }
        reads(Checks.times('8', 18), 0, "9898");
        reads(Checks.times('8', 19), 4, "98988");
        reads(Checks.times('8', 9), 3, "98");
        reads("303132", 3, "10111233");

        RowsAloud x = Checks.desk("r" + "23".repeat(15) + ";");
        due("read to 60", x.read(0), 60);
        String before = Checks.all(x);
        refused("read(0) to more than 60", x, before, x.read(0), FULL);
        refused("read(1) to more than 60", x, before, x.read(1), FULL);
        refused("read(6)", x, before, x.read(6), OUTSIDE);
        refused("read(-1)", x, before, x.read(-1), OUTSIDE);
        due("read(3) of it", x.read(3), 16);
        CHECKS.due("the row of it", Checks.row(x), "9191913192629363");
        RowsAloud full = Checks.desk("r" + "12".repeat(15) + "1;");
        before = Checks.all(full);
        refused("read(0) to 62", full, before, full.read(0), FULL);

        // Behind 512 calls answers are free; this bound can be seen only there, and the class keeps it.
        RowsAloud y = Checks.desk("r22;");
        for (int n = 0; n < 89999; n++) {
            y.read(0);
        }
        due("told(4)", y.told(4), 89999);
        due("the last read(0)", y.read(0), 2);
        before = Checks.all(y);
        refused("read(0) behind 90000", y, before, y.read(0), FULL);
        refused("read(9) behind 90000", y, before, y.read(9), OUTSIDE);
        refused("drift(1) behind 90000", y, before, y.drift(1), FULL);
        refused("drift(0) behind 90000", y, before, y.drift(0), OUTSIDE);
    }

    private static void unreads(String row, String was) {
        RowsAloud x = Checks.desk("r" + row + ";");
        due("unread() of " + row, x.unread(), was.length());
        CHECKS.due("the row behind unread() of " + row, Checks.row(x), was);
        due("readings", x.told(4), 0);
        due("log", x.told(5), 0);
        due("can be undone", x.told(13), 1);
        due("read again", x.read(0), row.length());
        CHECKS.due("the row read again", Checks.row(x), row);
    }

    private static void unsayable(String row, int refusal) {
        RowsAloud x = Checks.desk("r" + row + ";");
        String before = Checks.all(x);
        refused("unread() of " + row, x, before, x.unread(), refusal);
    }

    private static void promise10() {
        unreads("11", "1");
        unreads("111221", "1211");
        unreads("22", "22");
        unreads("10", "0");
        unreads("9737", Checks.times('7', 12));
        unreads("979797", Checks.times('7', 27));
        unreads("9718", Checks.times('7', 9) + "8");
        unreads("909090909090" + "60", Checks.times('0', 60));
        unsayable("1", NOT);
        unsayable("121", NOT);
        unsayable("01", NOT);
        unsayable("1201", NOT);
        unsayable("1121", NOT);
        unsayable("8717", NOT);
        unsayable("379717", NOT);
        unsayable("97" + "38".repeat(2), NOT);
        unsayable("9091".repeat(3) + "9092", FULL);
        unsayable("90909090909070", FULL);
        unsayable("9091".repeat(14) + "0192", NOT);
        unsayable("9091".repeat(14) + "191", NOT);
        RowsAloud x = new RowsAloud();
        due("unread() of an empty row", x.unread(), 0);
        due("it can be undone", x.told(13), 1);
    }

    private static void promises11And12() {
        RowsAloud x = Checks.desk("r5;w12345678;w9;");
        due("put(0)", x.put(0), 2);
        due("put(9)", x.put(9), 3);
        String before = Checks.all(x);
        refused("put(10)", x, before, x.put(10), OUTSIDE);
        refused("put(-1)", x, before, x.put(-1), OUTSIDE);
        refused("word(2)", x, before, x.word(2), UNKNOWN);
        refused("word(-1)", x, before, x.word(-1), UNKNOWN);
        for (int n = 1; n <= 7; n++) {
            due("word(0)", x.word(0), 3 + 8 * n);
        }
        before = Checks.all(x);
        refused("word(0) to 67", x, before, x.word(0), FULL);
        refused("word(6)", x, before, x.word(6), UNKNOWN);
        due("word(1) to 60", x.word(1), 60);
        CHECKS.due("the row", Checks.row(x), "509" + "12345678".repeat(7) + "9");
        before = Checks.all(x);
        refused("word(1) to 61", x, before, x.word(1), FULL);
        refused("put(1) to 61", x, before, x.put(1), FULL);
        refused("put(10), full", x, before, x.put(10), OUTSIDE);
        x.drop(8);
        due("word(0) to 60", x.word(0), 60);
        due("deeds", x.told(13), 12);
    }

    private static void promises13To15() {
        RowsAloud x = Checks.desk("r123;");
        due("change(2, 0)", x.change(2, 0), 3);
        due("change(0, 9)", x.change(0, 9), 1);
        due("change(0, 9) again", x.change(0, 9), 9);
        CHECKS.due("the row", Checks.row(x), "920");
        String before = Checks.all(x);
        refused("change(3, 1)", x, before, x.change(3, 1), UNKNOWN);
        refused("change(-1, 1)", x, before, x.change(-1, 1), UNKNOWN);
        refused("change(60, 1)", x, before, x.change(60, 1), UNKNOWN);
        refused("change(3, 10)", x, before, x.change(3, 10), UNKNOWN);
        refused("change(0, 10)", x, before, x.change(0, 10), OUTSIDE);
        refused("change(0, -1)", x, before, x.change(0, -1), OUTSIDE);
        due("deeds: like changes count", x.told(13), 3);
        due("turn()", x.turn(), 0);
        CHECKS.due("the row turned", Checks.row(x), "029");
        due("drop(0)", x.drop(0), 3);
        due("deeds: dropping none counts", x.told(13), 5);
        before = Checks.all(x);
        refused("drop(4)", x, before, x.drop(4), OUTSIDE);
        refused("drop(-1)", x, before, x.drop(-1), OUTSIDE);
        due("drop(1)", x.drop(1), 2);
        due("turn()", x.turn(), 2);
        CHECKS.due("the row turned again", Checks.row(x), "20");
        due("drop(2)", x.drop(2), 0);
        due("turn(), empty", x.turn(), NONE);
        RowsAloud longer = Checks.desk("r1234567;");
        due("turn() of seven", longer.turn(), 7);
        CHECKS.due("seven turned", Checks.row(longer), "7654321");
        longer.put(0);
        due("turn() of eight", longer.turn(), 0);
        CHECKS.due("eight turned", Checks.row(longer), "01234567");
        due("drop(0), empty", x.drop(0), 0);
        due("drop(1), empty", x.drop(1), OUTSIDE);
        due("change(0, 0), empty", x.change(0, 0), UNKNOWN);
        due("deeds", x.told(13), 10);
    }

    private static void promise16() {
        // The seeds that a start of 0 leads to, with their draws of 8: 12345 (0), 1406932606 (4), 654583775 (4),
        // 1449466924 (5), 229283573 (2), 1109335178 (7); and 1051550459, whose draw of 13 is 3.
        RowsAloud x = Checks.desk("r1222;");
        String[] rows = {"1132", "2132", "2132", "12111312", "121113311211", "121113311"};
        for (String row : rows) {
            due("drift(1)", x.drift(1), row.length());
            CHECKS.due("the row by draws", Checks.row(x), row);
        }
        int[] kinds = {2, 5, 4, 4, 0, NONE};
        int[] sizes = {8, 4, 4, 4, 4, NONE};
        for (int i = 0; i < kinds.length; i++) {
            due("logged(" + i + ", 0)", x.logged(i, 0), kinds[i]);
            due("logged(" + i + ", 1)", x.logged(i, 1), sizes[i]);
        }
        due("readings", x.told(4), 5);
        due("deeds", x.told(13), 6);
        due("seed behind seven draws", x.seed(0), 1051550459);
        x = Checks.desk("r1222;");
        due("drift(6)", x.drift(6), 9);
        CHECKS.due("the same row by six draws at once", Checks.row(x), "121113311");

        RowsAloud y = Checks.desk("r1;");
        int start = Draws.start(8, 6);
        y.seed(start);
        int figure = (int) (Draws.next(Draws.next(start)) / 65536 % 10);
        due("drift(1), putting", y.drift(1), 2);
        due("the figure put", y.at(1), figure);
        due("seed behind putting", y.seed(0), Draws.next(Draws.next(start)));

        // A reading of just 60 figures is still one.
        RowsAloud sixty = Checks.desk("r" + "23".repeat(15) + ";");
        sixty.seed(Draws.start(8, 0));
        due("drift(1) to 60", sixty.drift(1), 60);
        due("it was read", sixty.told(4), 1);

        int edge = edgeStart();
        RowsAloud divided = Checks.desk("r1;");
        divided.seed(edge);
        divided.drift(1);
        due("the kind drawn at the edge", divided.logged(0, 0), Draws.next(edge) / 65536 % 8);

        // A full row takes no figure, and no draw is made for one.
        RowsAloud full = Checks.desk("r" + "12".repeat(30) + ";");
        full.seed(start);
        due("drift(1), full", full.drift(1), 60);
        due("seed behind it", full.seed(Draws.start(8, 0)), Draws.next(start));
        due("it is a deed", full.told(13), 1);
        due("drift(1), a reading too long", full.drift(1), 60);
        due("no reading", full.told(4), 0);
        due("no log", full.told(5), 0);
        due("but a deed", full.told(13), 2);

        String before = Checks.all(full);
        refused("drift(0)", full, before, full.drift(0), OUTSIDE);
        refused("drift(21)", full, before, full.drift(21), OUTSIDE);
        refused("drift(-5)", full, before, full.drift(-5), OUTSIDE);
        full.drift(20);
        due("deeds", full.told(13), 22);
        full.drift(20);
        due("deeds, the most", full.told(13), 30);

        RowsAloud z = new RowsAloud();
        z.seed(Integer.MAX_VALUE);
        z.drift(1);
        // A drop of none from an empty row, if 7 was drawn, takes a second draw.
        long seed = Draws.next(Integer.MAX_VALUE);
        due("seed behind the greatest", z.seed(0), seed / 65536 % 8 < 6 ? seed : Draws.next(seed));
    }

    /** A seed whose next one draws a kind of reader that is another if it is divided by a little less. */
    private static int edgeStart() {
        for (int seed = 0; seed < 1000000; seed++) {
            long drawn = Draws.next(seed) / 65536 % 8;
            if (drawn < 5 && Draws.next(seed) / 65535 % 8 == drawn + 1) {
                return seed;
            }
        }
        return NONE;
    }

    private static void promise17() {
        RowsAloud x = Checks.desk("r12;w34;");
        x.read(0);
        x.unread();
        x.put(5);
        x.word(0);
        x.change(0, 7);
        x.drop(2);
        x.turn();
        CHECKS.due("the row", Checks.row(x), "527");
        due("deeds", x.told(13), 7);
        String[] rows = {"725", "72534", "12534", "125", "12", "1112", "12"};
        for (int i = 0; i < rows.length; i++) {
            due("told(4)", x.told(4), 1);
            due("undo(1)", x.undo(1), rows[i].length());
            CHECKS.due("the row undone", Checks.row(x), rows[i]);
            due("deeds left", x.told(13), 6 - i);
        }
        due("readings undone", x.told(4), 0);
        due("log undone", x.told(5), 0);
        String before = Checks.all(x);
        refused("undo(1), none", x, before, x.undo(1), NOT);
        refused("undo(0)", x, before, x.undo(0), OUTSIDE);
        refused("undo(31)", x, before, x.undo(31), OUTSIDE);
        refused("undo(-1)", x, before, x.undo(-1), OUTSIDE);

        for (int i = 0; i < 35; i++) {
            x.put(i % 10);
        }
        due("the most deeds", x.told(13), 30);
        before = Checks.all(x);
        refused("undo(31)", x, before, x.undo(31), OUTSIDE);
        due("undo(30)", x.undo(30), 7);
        CHECKS.due("the row", Checks.row(x), "1201234");
        due("undo(1)", x.undo(1), NOT);
        x.put(1);
        x.put(2);
        due("undo(3)", x.undo(3), NOT);
        due("undo(2)", x.undo(2), 7);

        RowsAloud log = Checks.desk("r22;");
        for (int i = 0; i < 20; i++) {
            log.read(i % 6);
        }
        String full = Checks.all(log);
        log.read(5);
        due("the latest", log.logged(0, 0), 5);
        due("the oldest", log.logged(19, 0), 1);
        due("undo(1)", log.undo(1), 2);
        CHECKS.due("the log is as it was, the oldest too", Checks.all(log), full);

        RowsAloud seed = Checks.desk("r1;");
        seed.drift(5);
        seed.undo(5);
        CHECKS.due("the row ahead of the draws", Checks.row(seed), "1");
        due("the seed stays", seed.seed(0), 229283573);
    }

    public static void main(String[] args) {
        promise9();
        promise10();
        promises11And12();
        promises13To15();
        promise16();
        promise17();
        CHECKS.end();
    }
}
