import java.util.List;

/**
 * All that can be seen behind a run of calls. What can be seen only by changing it (images, what can be undone, the
 * text, the seed) is looked at on an object of its own each time, so that no object has more calls than are promised.
 */
final class Prints {
    private Prints() {
    }

    static String all(List<Call> run) {
        return after(run).fault() + " " + butFault(run);
    }

    static String butFault(List<Call> run) {
        StringBuilder print = new StringBuilder();
        section2(after(run), print);
        rest(after(run), print);
        for (int i = 0; i < 2; i++) {
            RowsAloud x = after(run);
            print.append("\nimage ").append(x.goBack(i));
            section2(x, print);
        }
        past(after(run), print);
        RowsAloud x = after(run);
        print.append("\ntext ").append(x.desk()).append(' ').append(x.fault()).append(' ').append(Checks.row(x));
        return print.toString();
    }

    private static RowsAloud after(List<Call> run) {
        RowsAloud x = new RowsAloud();
        for (Call call : run) {
            call.on(x);
        }
        return x;
    }

    private static void section2(RowsAloud x, StringBuilder print) {
        print.append("\nrow ").append(Checks.row(x)).append(" readings ").append(x.told(4)).append(" log");
        for (int i = 0; i < x.told(5); i++) {
            print.append(' ').append(x.logged(i, 0)).append(':').append(x.logged(i, 1));
        }
        print.append(" seed ").append(x.seed(0));
    }

    private static void rest(RowsAloud x, StringBuilder print) {
        print.append("\ntold");
        for (int what = 0; what <= 13; what++) {
            print.append(' ').append(x.told(what));
        }
        print.append(" words");
        for (int w = 0; w < x.told(2); w++) {
            for (int k = 0; k < 8; k++) {
                print.append(' ').append(x.spelt(w, k));
            }
        }
        print.append(" heard ").append(x.couldBe()).append(" book ").append(x.judge());
    }

    private static void past(RowsAloud x, StringBuilder print) {
        print.append("\npast");
        for (int n = x.told(13); n > 0; n--) {
            int last = x.undo(1) - 1;
            print.append(' ').append(last + 1).append(':').append(x.told(4)).append(':').append(x.told(5));
            print.append(':').append(x.at(0)).append(x.at(last)).append(x.told(6)).append(x.told(9)).append(x.length(0, 8));
        }
    }
}
