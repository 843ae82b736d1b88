/** Promises 1 to 8: a new object, and the desk. */
public final class DeskTest {
    private static final int NONE = RowsAloud.NONE, UNKNOWN = RowsAloud.UNKNOWN, OUTSIDE = RowsAloud.OUTSIDE, FULL = RowsAloud.FULL;
    private static final Checks CHECKS = new Checks("DeskTest");

    private static void due(String call, long got, long want) {
        CHECKS.due(call, got, want);
    }

    private static void promise1() {
        RowsAloud x = new RowsAloud();
        int[] told = {0, 0, 0, 0, 0, 0, 0, NONE, NONE, 0, 1, 0, 0, 0};
        for (int what = 0; what < told.length; what++) {
            due("new: told(" + what + ")", x.told(what), told[what]);
        }
        due("new: at(0)", x.at(0), NONE);
        due("new: fault()", x.fault(), NONE);
        due("new: spelt(0, 0)", x.spelt(0, 0), UNKNOWN);
        due("new: logged(0, 0)", x.logged(0, 0), NONE);
        due("new: goBack(0)", x.goBack(0), RowsAloud.NOT);
        due("new: goBack(1)", x.goBack(1), RowsAloud.NOT);
        due("new: seed(5)", x.seed(5), 0);
        due("new: couldBe()", x.couldBe(), 63);
        due("new: judge()", x.judge(), NONE);
        // An empty row is read, unread, turned as any other: only the desk is not there.
        due("new: read(0)", x.read(0), 0);
        due("new: unread()", x.unread(), 0);
        due("new: put(7)", x.put(7), 1);
        due("new: told(4)", x.told(4), 1);
        due("new: told(0), still", x.told(0), 0);
    }

    private static void promise2() {
        RowsAloud x = new RowsAloud();
        due("feed(-1)", x.feed(-1), OUTSIDE);
        due("feed(256)", x.feed(256), OUTSIDE);
        due("feed(least)", x.feed(Integer.MIN_VALUE), OUTSIDE);
        due("feed(greatest)", x.feed(Integer.MAX_VALUE), OUTSIDE);
        due("feed(0)", x.feed(0), 1);
        due("feed(255)", x.feed(255), 2);
        for (int n = 3; n <= 240; n++) {
            due("feed to " + n, x.feed(32), n);
        }
        due("feed the 241st", x.feed(32), FULL);
        due("feed(256), full", x.feed(256), OUTSIDE);
        due("told(3), full", x.told(3), 240);
        due("desk of it", x.desk(), -11);
        due("fault of it", x.fault(), 0);
        due("feed again", x.feed(114), 1);
    }

    private static void text(String text, int answer, int fault) {
        RowsAloud x = Checks.desk("r987;w98;");
        x.read(0);
        x.hear(0, 0, true);
        x.write(0, 1);
        x.keep(1);
        x.put(3);
        x.seed(77);
        String before = Checks.all(x);
        due("desk of '" + text + "'", Checks.lay(x, text), answer);
        due("fault of '" + text + "'", x.fault(), fault);
        due("letters left of '" + text + "'", x.told(3), 0);
        if (answer < 0) {
            String faultless = Checks.all(x).replace("| " + fault + " ", "| -1 ");
            CHECKS.due("all behind the faulty '" + text + "'", faultless, before);
            due("the image behind the faulty '" + text + "'", x.goBack(1), 1);
        } else {
            for (int what : new int[] {3, 4, 5, 11, 12, 13}) {
                due("told(" + what + ") behind '" + text + "'", x.told(what), 0);
            }
            due("the image behind '" + text + "'", x.goBack(1), RowsAloud.NOT);
            due("the seed behind '" + text + "'", x.seed(0), 77);
        }
    }

    private static void promises3And4() {
        String sixty = Checks.times('4', 60);
        text("", 0, NONE);
        text("   ", 0, NONE);
        text("r1;", 1, NONE);
        text(" r 1 2 ; w 3 4 ; ", 2, NONE);
        text("r" + sixty + ";w12345678;w1;w1;w1;w1;w1;", 60, NONE);
        text("r", -11, 1);
        text("r ", -11, 2);
        text("r;", -11, 1);
        text("r ;", -11, 2);
        text("r1", -11, 2);
        text("r1  ", -11, 4);
        text("w1;", -11, 0);
        text(";", -11, 0);
        text("5", -11, 0);
        text("  x", -11, 2);
        text("R1;", -11, 0);
        text("r1;;", -11, 3);
        text("r1;2", -11, 3);
        text("r1;x", -11, 3);
        text("r1x;", -11, 2);
        text("r1r;", -11, 2);
        text("r1w;", -11, 2);
        text("r1/;", -11, 2);
        text("r1:;", -11, 2);
        text("rr1;", -11, 1);
        text("r1;w", -11, 4);
        text("r1;w;", -11, 4);
        text("r1;w1", -11, 5);
        text("r1;ww1;", -11, 4);
        text("r" + sixty + "4;", -12, 61);
        text("r" + sixty + " 4", -12, 62);
        text("r" + sixty + "x", -11, 61);
        text("r" + sixty, -11, 61);
        text("r1;w123456789;", -12, 12);
        text("r1;r1;", -13, 3);
        text("r1;w1; r", -13, 7);
        text("r1;w1;w1;w1;w1;w1;w1;w1;", -13, 21);
        text("r1;w1;w1;w1;w1;w1;w1;x", -11, 21);
        text("r1;w1;w1;w1;w1;w1;w1; ", 1, NONE);

        RowsAloud x = Checks.desk("r12;w3;");
        due("desk of nothing", x.desk(), 0);
        due("told(0) without a desk", x.told(0), 0);
        due("told(1) without a desk", x.told(1), 0);
        due("told(2) without a desk", x.told(2), 0);
        due("spelt(0, 0) without a desk", x.spelt(0, 0), UNKNOWN);
        due("a faulty desk", Checks.lay(x, "q"), -11);
        due("its fault", x.fault(), 0);
        due("a desk", Checks.lay(x, "r5;"), 1);
        due("no fault", x.fault(), NONE);
        due("told(0), a desk of one figure", x.told(0), 1);
        due("a text without an end", Checks.lay(x, "r12"), -11);
        due("nothing of it is left in the next", Checks.lay(x, "r34;"), 2);
        due("nor in its row", x.at(0), 3);
    }

    private static void promise5() {
        RowsAloud x = Checks.desk("r7722277;w7;w77;w222;w2;w2;w22;");
        int[] told = {1, 7, 6, 0, 0, 0, 3, 3, 2, 2, 52, 0, 0, 0};
        // 77 twice: two ways each; 222 by 222, 2 2 2 (8 ways, two words being alike), 2 22 (2), 22 2 (2): 13, and so 52.
        for (int what = 0; what < told.length; what++) {
            due("told(" + what + ")", x.told(what), told[what]);
        }
        due("told(14)", x.told(14), OUTSIDE);
        due("told(-1)", x.told(-1), OUTSIDE);
        x.feed(32);
        x.read(0);
        x.hear(0, 1, false);
        x.hear(0, 1, false);
        x.write(3, 3);
        due("told(3)", x.told(3), 1);
        due("told(4)", x.told(4), 1);
        due("told(5)", x.told(5), 1);
        due("told(11)", x.told(11), 2);
        due("told(12)", x.told(12), 1);
        due("told(13)", x.told(13), 1);
        due("told(10), 27 32 27", x.told(10), 0);

        RowsAloud y = Checks.desk("r1223344;w1;");
        due("the longest of like runs", y.told(7), 2);
        due("the first of them", y.told(8), 2);
        RowsAloud inside = Checks.desk("r3113333;");
        due("the longest is the last", inside.told(7), 4);
        due("of", inside.told(8), 3);
        RowsAloud z = Checks.desk("r0123456789;w0;");
        due("runs", z.told(6), 10);
        due("unlike", z.told(9), 10);
        due("longest", z.told(7), 1);
        due("of", z.told(8), 0);
        due("no ways", z.told(10), 0);
        // Thirty ways doubled by two like words are more than a billion; 29 of them are not.
        RowsAloud ways = Checks.desk("r" + Checks.times('5', 30) + ";w5;w5;");
        due("a billion ways", ways.told(10), 1000000000);
        ways.drop(1);
        due("fewer ways", ways.told(10), 1 << 29);
        ways.drop(29);
        due("the way to tell an empty row", ways.told(10), 1);
    }

    private static void promises6To8() {
        RowsAloud x = Checks.desk("r" + Checks.times('1', 59) + "9;w1;w87654321;");
        due("at(0)", x.at(0), 1);
        due("at(59)", x.at(59), 9);
        due("at(60)", x.at(60), OUTSIDE);
        due("at(-1)", x.at(-1), OUTSIDE);
        x.drop(1);
        due("at(59), dropped", x.at(59), NONE);
        due("spelt(0, 0)", x.spelt(0, 0), 1);
        due("spelt(0, 1)", x.spelt(0, 1), NONE);
        due("spelt(1, 7)", x.spelt(1, 7), 1);
        due("spelt(1, 0)", x.spelt(1, 0), 8);
        due("spelt(1, 8)", x.spelt(1, 8), OUTSIDE);
        due("spelt(1, -1)", x.spelt(1, -1), OUTSIDE);
        due("spelt(2, 0)", x.spelt(2, 0), UNKNOWN);
        due("spelt(-1, 0)", x.spelt(-1, 0), UNKNOWN);
        due("spelt(2, 8)", x.spelt(2, 8), UNKNOWN);

        RowsAloud y = Checks.desk("r1;");
        due("logged(0, 0), nothing", y.logged(0, 0), NONE);
        for (int n = 0; n < 8; n++) {
            y.read(n == 7 ? 1 : 0);
        }
        int[] sizes = {1, 2, 2, 4, 6, 6, 8, 10};
        for (int i = 0; i < 8; i++) {
            due("logged(" + i + ", 0)", y.logged(i, 0), i == 0 ? 1 : 0);
            due("logged(" + i + ", 1)", y.logged(i, 1), sizes[7 - i]);
        }
        due("logged(8, 0)", y.logged(8, 0), NONE);
        due("logged(-1, 0)", y.logged(-1, 0), NONE);
        due("logged(greatest, 1)", y.logged(Integer.MAX_VALUE, 1), NONE);
        due("logged(least, 1)", y.logged(Integer.MIN_VALUE, 1), NONE);
        due("logged(0, 2)", y.logged(0, 2), OUTSIDE);
        due("logged(0, -1)", y.logged(0, -1), OUTSIDE);
        due("logged(99, 2)", y.logged(99, 2), OUTSIDE);
        for (int n = 0; n < 30; n++) {
            y.read(n == 10 ? 4 : 3);
        }
        due("told(5)", y.told(5), 20);
        due("told(4)", y.told(4), 38);
        due("logged(19, 0)", y.logged(19, 0), 4);
        due("logged(18, 0)", y.logged(18, 0), 3);
        due("logged(20, 0)", y.logged(20, 0), NONE);
    }

    public static void main(String[] args) {
        promise1();
        promise2();
        promises3And4();
        promise5();
        promises6To8();
        CHECKS.end();
    }
}
