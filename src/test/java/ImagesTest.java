/** Promises 34 to 36: the seed, and images to go on from. */
public final class ImagesTest {
    private static final int NONE = RowsAloud.NONE, UNKNOWN = RowsAloud.UNKNOWN, OUTSIDE = RowsAloud.OUTSIDE, NOT = RowsAloud.NOT;
    private static final Checks CHECKS = new Checks("ImagesTest");

    private static void due(String call, long got, long want) {
        CHECKS.due(call, got, want);
    }

    private static void promise34() {
        RowsAloud x = new RowsAloud();
        due("seed(5)", x.seed(5), 0);
        due("seed(greatest)", x.seed(Integer.MAX_VALUE), 5);
        due("seed(-1)", x.seed(-1), OUTSIDE);
        due("seed(least)", x.seed(Integer.MIN_VALUE), OUTSIDE);
        due("seed(0)", x.seed(0), Integer.MAX_VALUE);
        due("seed(9)", x.seed(9), 0);
        due("no deed", x.told(13), 0);
        Checks.lay(x, "r1;");
        due("the seed stays behind a desk", x.seed(0), 9);
    }

    private static void promises35And36() {
        RowsAloud x = Checks.desk("r1;w5;");
        String before = Checks.all(x);
        for (int wrong : new int[] {Integer.MIN_VALUE, -1, 2, Integer.MAX_VALUE}) {
            due("keep(" + wrong + ")", x.keep(wrong), UNKNOWN);
            due("goBack(" + wrong + ")", x.goBack(wrong), UNKNOWN);
        }
        due("goBack(0), not kept", x.goBack(0), NOT);
        CHECKS.due("all behind what is refused", Checks.all(x), before);
        x.read(0);
        x.read(1);
        x.seed(41);
        due("keep(0)", x.keep(0), 1);
        due("nothing can be undone", x.told(13), 0);
        due("undo(1)", x.undo(1), NOT);
        due("goBack(1), not kept", x.goBack(1), NOT);
        String first = Checks.all(x);
        x.read(0);
        x.put(7);
        x.word(0);
        x.seed(42);
        due("keep(1)", x.keep(1), 1);
        String second = Checks.all(x);
        x.turn();
        x.drift(20);
        due("goBack(0)", x.goBack(0), 1);
        CHECKS.due("all is as it was, with the seed", Checks.all(x), first);
        due("goBack(1)", x.goBack(1), 1);
        CHECKS.due("all is as it was then", Checks.all(x), second);
        x.put(3);
        due("goBack(1) again", x.goBack(1), 1);
        CHECKS.due("nothing can be undone, and all is as it was", Checks.all(x), second);
        due("goBack(0) again", x.goBack(0), 1);
        due("keep(1) of it", x.keep(1), 1);
        x.drop(1);
        x.goBack(1);
        CHECKS.due("an image that was kept anew", Checks.all(x), first);
        x.put(9);
        CHECKS.due("what is done behind it does not reach the image", goneBack(x), first);
        Checks.lay(x, "q");
        due("goBack(0) behind a faulty text", x.goBack(0), 1);
        Checks.lay(x, "r2;");
        due("goBack(0) behind a desk", x.goBack(0), NOT);
        due("goBack(1) behind a desk", x.goBack(1), NOT);
        x.keep(0);
        x.desk();
        due("goBack(0) behind an empty text", x.goBack(0), NOT);
        RowsAloud empty = new RowsAloud();
        due("keep(1) without a desk", empty.keep(1), 1);
        empty.put(1);
        due("goBack(1) without a desk", empty.goBack(1), 1);
        due("the row is empty", empty.at(0), NONE);
    }

    private static String goneBack(RowsAloud x) {
        x.goBack(1);
        return Checks.all(x);
    }

    private static void whatIsNotInAnImage() {
        RowsAloud x = Checks.desk("r1;w1;");
        x.keep(0);
        x.hear(0, 0, true);
        x.write(0, 1);
        x.feed(32);
        x.goBack(0);
        due("what is heard stays", x.told(11), 1);
        due("the book stays", x.told(12), 1);
        due("the text stays", x.told(3), 1);
    }

    public static void main(String[] args) {
        promise34();
        promises35And36();
        whatIsNotInAnImage();
        CHECKS.end();
    }
}
