/** Promises 18 to 27: what is tried, and changes nothing. */
public final class TriedTest {
    private static final int NONE = RowsAloud.NONE, UNKNOWN = RowsAloud.UNKNOWN, OUTSIDE = RowsAloud.OUTSIDE;
    private static final int LEAST = Integer.MIN_VALUE, GREATEST = Integer.MAX_VALUE;
    private static final Checks CHECKS = new Checks("TriedTest");
    private static final String[] PLAIN = {"1", "11", "21", "1211", "111221", "312211", "13112221", "1113213211", "31131211131221"};
    private static final String[] TURNED = {"1", "11", "12", "1121", "122111", "112213", "12221131", "1123123111", "12213111213113"};
    private static final String[] BEHIND = {"1", "11", "21", "1112", "1231", "11131211", "2112111331"};
    private static final String[] COUNTED = {"1", "11", "21", "1112", "3112", "211213", "312213", "212223", "114213"};

    private static void due(String call, long got, long want) {
        CHECKS.due(call, got, want);
    }

    /** What the class tries on the row is what the rows say. */
    private static void tries(int kind, String[] rows) {
        RowsAloud x = Checks.desk("r" + rows[0] + ";");
        for (int n = 0; n < rows.length; n++) {
            due("length(" + kind + ", " + n + ")", x.length(kind, n), rows[n].length());
            for (int place = 0; place < 16; place++) {
                int want = place < rows[n].length() ? rows[n].charAt(place) - '0' : NONE;
                due("figure(" + kind + ", " + n + ", " + place + ")", x.figure(kind, n, place), want);
            }
            for (int figure = 0; figure < 10; figure++) {
                int want = rows[n].length() - rows[n].replace("" + figure, "").length();
                due("often(" + kind + ", " + n + ", " + figure + ")", x.often(kind, n, figure), want);
            }
        }
        CHECKS.due("the row stays", Checks.row(x), rows[0]);
        due("no deed", x.told(13), 0);
    }

    private static void promises18To20() {
        tries(0, PLAIN);
        tries(1, TURNED);
        tries(2, BEHIND);
        tries(3, COUNTED);
        tries(4, new String[] {"1", "1", "1", "1", "1", "1", "1", "1", "1"});
        tries(5, PLAIN);
        tries(4, new String[] {"1112", "312", "312", "312", "312", "312", "312", "312", "312"});
        tries(5, new String[] {"11111", "31", "1311", "111321", "31131211"});
        tries(0, new String[] {"1111111111", "9111", "1931", "11191311"});
        // Sixty runs of one, of figures that are never said as how many: each grows by itself as the one of Conway's does.
        RowsAloud x = Checks.desk("r" + "45".repeat(30) + ";");
        int[] plain = {60, 120, 240, 240, 360, 600, 720, 840, 1320};
        for (int n = 0; n <= 8; n++) {
            due("length(0, " + n + ") of sixty", x.length(0, n), plain[n]);
        }
        due("the last figure of sixty", x.figure(0, 8, 1319), 5);
        due("behind it", x.figure(0, 8, 1320), NONE);
        due("figure(0, 8, 15359)", x.figure(0, 8, 15359), NONE);
        due("figure(0, 8, 15360)", x.figure(0, 8, 15360), OUTSIDE);
        for (int wrong : new int[] {LEAST, -1, 9, GREATEST}) {
            due("length(0, " + wrong + ")", x.length(0, wrong), OUTSIDE);
            due("figure(0, " + wrong + ", 0)", x.figure(0, wrong, 0), OUTSIDE);
            due("often(0, " + wrong + ", 0)", x.often(0, wrong, 0), OUTSIDE);
            due("length(" + wrong + ", 0)", x.length(wrong, 0), OUTSIDE);
            due("figure(" + wrong + ", 0, 0)", x.figure(wrong, 0, 0), OUTSIDE);
            due("often(" + wrong + ", 0, 0)", x.often(wrong, 0, 0), OUTSIDE);
        }
        due("length(6, 0)", x.length(6, 0), OUTSIDE);
        due("figure(0, 0, -1)", x.figure(0, 0, -1), OUTSIDE);
        due("often(0, 0, -1)", x.often(0, 0, -1), OUTSIDE);
        due("often(0, 0, 10)", x.often(0, 0, 10), OUTSIDE);
        RowsAloud empty = new RowsAloud();
        for (int kind = 0; kind < 6; kind++) {
            due("length(" + kind + ", 8), empty", empty.length(kind, 8), 0);
            due("figure(" + kind + ", 8, 0), empty", empty.figure(kind, 8, 0), NONE);
            due("often(" + kind + ", 8, 1), empty", empty.often(kind, 8, 1), 0);
            due("first(" + kind + ", 1), empty", empty.first(kind, 1), NONE);
        }
    }

    private static void promise21() {
        RowsAloud x = Checks.desk("r1;");
        due("first(0, 1)", x.first(0, 1), 0);
        due("first(0, 2)", x.first(0, 2), 2);
        due("first(0, 3)", x.first(0, 3), 5);
        due("first(0, 4)", x.first(0, 4), NONE);
        due("first(3, 4)", x.first(3, 4), 8);
        due("first(4, 2)", x.first(4, 2), NONE);
        x.put(1);
        due("first(3, 4) of 11", x.first(3, 4), 7);
        due("first(6, 0)", x.first(6, 0), OUTSIDE);
        due("first(-1, 0)", x.first(-1, 0), OUTSIDE);
        due("first(0, 10)", x.first(0, 10), OUTSIDE);
        due("first(0, -1)", x.first(0, -1), OUTSIDE);
        // A counter says an eight of 07 behind eight readings, a nine of 08 behind nine: that is not tried.
        due("first(3, 8) of 07", Checks.desk("r07;").first(3, 8), 8);
        due("first(3, 9) of 08", Checks.desk("r08;").first(3, 9), NONE);
    }

    private static void comesAgain(String row, int behind, int which) {
        RowsAloud x = row.isEmpty() ? new RowsAloud() : Checks.desk("r" + row + ";");
        due("again(0) of " + row, x.again(0), behind);
        due("again(1) of " + row, x.again(1), which);
        CHECKS.due("the row stays", Checks.row(x), row);
    }

    private static void promise22() {
        comesAgain("", 1, 0);
        comesAgain("22", 1, 0);
        comesAgain("1", 13, 12);
        comesAgain("21322314", 1, 0);
        comesAgain("31221324", 2, 1);
        comesAgain("2231", 9, 8);
        comesAgain(Checks.times('0', 60), 18, 16);
        RowsAloud x = Checks.desk("r1;");
        for (int wrong : new int[] {LEAST, -1, 2, GREATEST}) {
            due("again(" + wrong + ")", x.again(wrong), OUTSIDE);
        }
    }

    private static void falls(String row, int many, int first, int longest) {
        RowsAloud x = row.isEmpty() ? new RowsAloud() : Checks.desk("r" + row + ";");
        due("apart(0) of " + row, x.apart(0), many);
        due("apart(1) of " + row, x.apart(1), first);
        due("apart(2) of " + row, x.apart(2), longest);
        CHECKS.due("the row stays", Checks.row(x), row);
    }

    private static void promise23() {
        falls("", 0, NONE, 0);
        falls("1", 0, NONE, 1);
        falls("22", 0, NONE, 2);
        falls("2261", 2, 2, 2);
        // What is said of 1 begins with 3 behind five readings: a sixth says it together with the 3 ahead.
        falls("31", 0, NONE, 2);
        // What is said of 211 begins with 3 behind six readings, and so a seventh would be too late.
        falls("3211", 1, 1, 3);
        falls("1321131112", 1, 2, 8);
        falls("55555", 0, NONE, 5);
        falls(Checks.times('0', 9), 0, NONE, 9);
        falls(Checks.times('0', 10), 1, 9, 9);
        falls(Checks.times('0', 18), 1, 9, 9);
        falls(Checks.times('0', 60), 6, 9, 9);
        // 91|91 is read 1911|1911, and then three ones are said across the place.
        falls(Checks.times('1', 18), 0, NONE, 18);
        falls("8" + Checks.times('0', 12) + "7", 3, 1, 9);
        RowsAloud x = Checks.desk("r1;");
        for (int wrong : new int[] {LEAST, -1, 3, GREATEST}) {
            due("apart(" + wrong + ")", x.apart(wrong), OUTSIDE);
        }
    }

    private static void goesBack(String row, int times, int oldest) {
        RowsAloud x = row.isEmpty() ? new RowsAloud() : Checks.desk("r" + row + ";");
        due("back(0) of " + row, x.back(0), times);
        due("back(1) of " + row, x.back(1), oldest);
        CHECKS.due("the row stays", Checks.row(x), row);
        due("no deed", x.told(13), 0);
    }

    private static void promise24() {
        goesBack("", 0, 0);
        goesBack("1", 0, 1);
        goesBack("22", 0, 2);
        for (int n = 0; n < PLAIN.length; n++) {
            goesBack(PLAIN[n], n, 1);
        }
        goesBack("1122", 1, 3);
        goesBack("90909090909060", 1, 60);
        goesBack("90909090909070", 0, 14);
        goesBack("3122", 1, 5);
        goesBack("0122", 0, 4);
        goesBack("1121", 0, 4);
        RowsAloud x = Checks.desk("r1;");
        for (int wrong : new int[] {LEAST, -1, 2, GREATEST}) {
            due("back(" + wrong + ")", x.back(wrong), OUTSIDE);
        }
    }

    private static void promises25And26() {
        RowsAloud x = Checks.desk("r1231234;w123;w1234;w4;w5;w12341;w31;");
        int[] in = {0, 3, 6, NONE, NONE, 2};
        int[] changes = {4, 3, 6, 7, 4, 5};
        for (int w = 0; w < 6; w++) {
            due("in(" + w + ")", x.in(w), in[w]);
            due("changes(" + w + ")", x.changes(w), changes[w]);
        }
        for (int wrong : new int[] {LEAST, -1, 6, GREATEST}) {
            due("in(" + wrong + ")", x.in(wrong), UNKNOWN);
            due("changes(" + wrong + ")", x.changes(wrong), UNKNOWN);
        }
        x.drop(4);
        due("changes(0) of 123", x.changes(0), 0);
        due("in(0) of 123", x.in(0), 0);
        due("in(1) of 123", x.in(1), NONE);
        due("changes(1) of 123", x.changes(1), 1);
        x.change(1, 9);
        due("changes(0) of 193", x.changes(0), 1);
        x.drop(3);
        due("changes(4) of nothing", x.changes(4), 5);
        due("in(4) of nothing", x.in(4), NONE);
        RowsAloud far = Checks.desk("r" + Checks.times('1', 60) + ";w22222222;w11111111;w1;");
        due("changes(0) of sixty", far.changes(0), 60);
        due("changes(1) of sixty", far.changes(1), 52);
        due("changes(2) of sixty", far.changes(2), 59);
        due("in(1) of sixty", far.in(1), 0);
        RowsAloud end = Checks.desk("r" + Checks.times('1', 52) + "12345678;w12345678;");
        due("in(0) at the end", end.in(0), 52);
        RowsAloud shifted = Checks.desk("r12345678;w23456781;");
        due("one taken out, one put in", shifted.changes(0), 2);
        due("in no desk", new RowsAloud().in(0), UNKNOWN);
        due("changes in no desk", new RowsAloud().changes(0), UNKNOWN);
    }

    private static void promise27() {
        RowsAloud x = new RowsAloud();
        int[][] odds = {{0, 0, 1000000000}, {0, 100, 1000000000}, {60, 100, 1000000000}, {1, 0, 0}, {60, 0, 0}, {2, 90, 810000000},
            {60, 99, 547156620}, {3, 33, 35937000}, {4, 1, 10}, {5, 1, 0}, {6, 7, 117}};
        for (int[] o : odds) {
            due("noSlip(" + o[0] + ", " + o[1] + ")", x.noSlip(o[0], o[1]), o[2]);
        }
        for (int wrong : new int[] {LEAST, -1, 101, GREATEST}) {
            due("noSlip(0, " + wrong + ")", x.noSlip(0, wrong), OUTSIDE);
            due("noSlip(" + wrong + ", 0)", x.noSlip(wrong, 0), OUTSIDE);
        }
        due("noSlip(61, 0)", x.noSlip(61, 0), OUTSIDE);
    }

    public static void main(String[] args) {
        promises18To20();
        promise21();
        promise22();
        promise23();
        promise24();
        promises25And26();
        promise27();
        CHECKS.end();
    }
}
