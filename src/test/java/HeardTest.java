/** Promises 28 to 33: what is heard, what to have read next, and the book. */
public final class HeardTest {
    private static final int NONE = RowsAloud.NONE, UNKNOWN = RowsAloud.UNKNOWN, OUTSIDE = RowsAloud.OUTSIDE, FULL = RowsAloud.FULL;
    private static final Checks CHECKS = new Checks("HeardTest");

    private static void due(String call, long got, long want) {
        CHECKS.due(call, got, want);
    }

    private static void promise28() {
        RowsAloud x = Checks.desk("r1;w1;w11;");
        String before = Checks.all(x);
        int[][] unknown = {{2, 0}, {0, 2}, {-1, 0}, {0, -1}, {6, 6}, {Integer.MIN_VALUE, Integer.MAX_VALUE}};
        for (int[] pair : unknown) {
            due("hear(" + pair[0] + ", " + pair[1] + ", true)", x.hear(pair[0], pair[1], true), UNKNOWN);
        }
        CHECKS.due("all behind what is unknown", Checks.all(x), before);
        for (int n = 1; n <= 6; n++) {
            due("hear(0, 1, true)", x.hear(0, 1, true), n);
        }
        before = Checks.all(x);
        due("hear the seventh", x.hear(0, 0, true), FULL);
        due("hear an unknown one, full", x.hear(0, 2, true), UNKNOWN);
        CHECKS.due("all behind the seventh", Checks.all(x), before);
        due("told(11)", x.told(11), 6);
        due("told(13): no deed", x.told(13), 0);
        x.put(5);
        x.undo(1);
        x.keep(0);
        x.goBack(0);
        due("told(11), still", x.told(11), 6);
        due("hear without words", new RowsAloud().hear(0, 0, true), UNKNOWN);
    }

    private static void fits(String text, int w, int said, int is) {
        RowsAloud x = Checks.desk(text);
        x.hear(w, said, true);
        due("couldBe() by " + text + " " + w + " " + said, x.couldBe(), is);
        x.tear();
        x.hear(w, said, false);
        due("couldBe() by " + text + " " + w + " not " + said, x.couldBe(), 63 - is);
        x.hear(w, said, true);
        due("couldBe() by both", x.couldBe(), 0);
        due("ask() by both", x.ask(), NONE);
    }

    private static void promise29() {
        due("couldBe(), nothing heard", Checks.desk("r1;w1;").couldBe(), 63);
        fits("r9;w3;w13;", 0, 1, 0b101101);
        fits("r9;w3;w31;", 0, 1, 0b000010);
        fits("r9;w3;w3;", 0, 1, 0b010000);
        fits("r9;w3;", 0, 0, 0b010000);
        fits("r9;w22;", 0, 0, 0b111111);
        fits("r9;w1121;w3112;", 0, 1, 0b001000);
        fits("r9;w1121;w211211;", 0, 1, 0b100001);
        fits("r9;w1121;w111221;", 0, 1, 0b000100);
        fits("r9;w1121;w2121;", 0, 1, 0b010000);
        fits("r9;w1121;w122111;", 0, 1, 0b000010);
        fits("r9;w1121;w122112;", 0, 1, 0);
        fits("r9;w1121;w122111;w122111;w12 2111;w1;w122111;", 5, 4, 0);
        fits("r9;w11;w12;", 0, 1, 0b000010);
        fits("r9;w4444;w34;", 0, 1, 0b100000);
        fits("r9;w4444;w44;", 0, 1, 0b011111);
        RowsAloud x = Checks.desk("r9;w3;w13;w12;w1112;w1211;");
        x.hear(0, 1, true);
        due("0, 2, 3, 5", x.couldBe(), 0b101101);
        x.hear(2, 3, true);
        due("0, 3, 5", x.couldBe(), 0b101001);
        x.hear(2, 4, false);
        due("0, 3, 5 still", x.couldBe(), 0b101001);
        x.hear(2, 3, false);
        due("none", x.couldBe(), 0);
        CHECKS.due("the row has no part in it", Checks.row(x), "9");
    }

    private static void promise30() {
        due("ask() without words", Checks.desk("r1;").ask(), NONE);
        due("ask() of 22", Checks.desk("r1;w22;").ask(), NONE);
        due("ask() of 22, 1", Checks.desk("r1;w22;w1;").ask(), 1);
        // 1: no ones by itself; 3: turned and no ones; 31: two and two alike, two by themselves.
        due("ask() of 1, 3, 31", Checks.desk("r1;w1;w3;w31;").ask(), 2);
        due("ask() of like ones", Checks.desk("r1;w13;w31;w31;w42;").ask(), 1);
        due("ask() of 13, 31, 1313", Checks.desk("r1;w13;w3;w13;").ask(), 0);
        RowsAloud x = Checks.desk("r1;w3;w13;w31;w4444;w44;");
        due("ask()", x.ask(), 2);
        x.hear(0, 1, true);
        due("ask(): 0, 2, 3, 5", x.ask(), 2);
        x.hear(3, 4, true);
        due("ask(): 0, 2, 3", x.ask(), 1);
        RowsAloud y = Checks.desk("r1;w3;w13;w12;w1112;w1111;");
        y.hear(0, 1, true);
        y.hear(2, 3, true);
        due("kinds 0, 3, 5", y.couldBe(), 0b101001);
        due("ask(): 1111 parts 5 from 0, 3", y.ask(), 4);
        RowsAloud one = Checks.desk("r1;w3;w31;w4444;");
        one.hear(0, 1, true);
        due("one kind", one.couldBe(), 0b000010);
        due("ask() of one", one.ask(), NONE);
        due("ask() is no deed", one.told(13), 0);
        RowsAloud plain = Checks.desk("r1;w4444;w44;w1311;w111321;w31;");
        plain.hear(0, 1, true);
        plain.hear(2, 3, true);
        due("kind 0 alone", plain.couldBe(), 0b000001);
        due("ask() of 0 alone", plain.ask(), NONE);
    }

    private static void promises31And32() {
        RowsAloud x = Checks.desk("r123;");
        due("judge(), no book", x.judge(), NONE);
        due("write(0, 1)", x.write(0, 1), 1);
        due("write(2, 3)", x.write(2, 3), 2);
        due("write(3, NONE)", x.write(3, NONE), 3);
        due("write(59, NONE)", x.write(59, NONE), 4);
        due("judge()", x.judge(), NONE);
        String before = Checks.all(x);
        int[][] outside = {{-1, 0}, {60, 0}, {0, 10}, {0, -2}, {60, 10}, {Integer.MAX_VALUE, Integer.MIN_VALUE}};
        for (int[] entry : outside) {
            due("write(" + entry[0] + ", " + entry[1] + ")", x.write(entry[0], entry[1]), OUTSIDE);
        }
        CHECKS.due("all behind what is outside", Checks.all(x), before);
        x.put(4);
        due("judge(), one put", x.judge(), 2);
        x.turn();
        due("judge(), turned", x.judge(), 0);
        x.undo(2);
        due("judge(), undone", x.judge(), NONE);
        x.drop(1);
        due("judge(), one dropped", x.judge(), 1);
        x.undo(1);
        due("write(0, NONE)", x.write(0, NONE), 5);
        due("judge(), there is one", x.judge(), 4);
        for (int n = 6; n <= 20; n++) {
            due("write(1, 2)", x.write(1, 2), n);
        }
        before = Checks.all(x);
        due("write the 21st", x.write(1, 2), FULL);
        due("write(60, 2), full", x.write(60, 2), OUTSIDE);
        CHECKS.due("all behind the 21st", Checks.all(x), before);
        due("judge(), the same", x.judge(), 4);
        due("told(12)", x.told(12), 20);
        due("told(13): no deed", x.told(13), 0);
        x.keep(0);
        x.goBack(0);
        due("told(12), still", x.told(12), 20);
        due("judge() without a row", judgeEmpty(), 1);
    }

    private static int judgeEmpty() {
        RowsAloud x = new RowsAloud();
        x.write(0, NONE);
        x.write(0, 0);
        return x.judge();
    }

    private static void promise33() {
        RowsAloud x = Checks.desk("r123;w1;");
        due("tear(), nothing", x.tear(), 0);
        x.hear(0, 0, false);
        x.hear(0, 0, true);
        x.write(0, 9);
        due("tear()", x.tear(), 3);
        due("told(11)", x.told(11), 0);
        due("told(12)", x.told(12), 0);
        due("judge()", x.judge(), NONE);
        due("couldBe()", x.couldBe(), 63);
        CHECKS.due("the row stays", Checks.row(x), "123");
        due("tear(), again", x.tear(), 0);
        due("write(0, 1)", x.write(0, 1), 1);
        due("hear(0, 0, true)", x.hear(0, 0, true), 1);
    }

    public static void main(String[] args) {
        promise28();
        promise29();
        promise30();
        promises31And32();
        promise33();
        CHECKS.end();
    }
}
