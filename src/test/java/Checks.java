/** Counts the calls whose answer is not the one that is due. */
final class Checks {
    private final String test;
    private int calls;
    private int wrong;

    Checks(String test) {
        this.test = test;
    }

    void due(String call, long got, long want) {
        calls++;
        if (got != want) {
            wrong++;
            System.out.println(test + ": " + call + " answered " + got + ", due is " + want);
        }
    }

    void due(String what, String got, String want) {
        calls++;
        if (!got.equals(want)) {
            wrong++;
            System.out.println(test + ": " + what + " is " + got + ", due is " + want);
        }
    }

    void holds(String what, boolean so) {
        due(what, so ? 1 : 0, 1);
    }

    int wrong() {
        return wrong;
    }

    /** Ends the test: with 1 if there was a wrong answer, or nothing was asked at all. */
    void end() {
        System.out.println(test + ": " + calls + " checks, " + wrong + " wrong");
        if (wrong > 0 || calls == 0) {
            System.exit(1);
        }
    }

    // ---- what the tests do with a desk again and again

    static int lay(RowsAloud x, String text) {
        for (int i = 0; i < text.length(); i++) {
            x.feed(text.charAt(i));
        }
        return x.desk();
    }

    static RowsAloud desk(String text) {
        RowsAloud x = new RowsAloud();
        lay(x, text);
        return x;
    }

    /** The row as a text. */
    static String row(RowsAloud x) {
        StringBuilder row = new StringBuilder();
        for (int place = 0; place < 60; place++) {
            int figure = x.at(place);
            if (figure == RowsAloud.NONE) {
                break;
            }
            row.append(figure);
        }
        return row.toString();
    }

    /** All that calls which change nothing answer about what is so. */
    static String all(RowsAloud x) {
        StringBuilder all = new StringBuilder(row(x));
        for (int what = 0; what <= 13; what++) {
            all.append(' ').append(x.told(what));
        }
        all.append(" |");
        for (int i = 0; i < 21; i++) {
            all.append(' ').append(x.logged(i, 0)).append(':').append(x.logged(i, 1));
        }
        all.append(" |");
        for (int w = 0; w < 6; w++) {
            for (int k = 0; k < 8; k++) {
                all.append(' ').append(x.spelt(w, k));
            }
        }
        all.append(" | ").append(x.fault()).append(' ').append(x.couldBe()).append(' ').append(x.judge());
        int seed = x.seed(0);
        x.seed(seed);
        return all.append(' ').append(seed).toString();
    }

    static String times(char figure, int n) {
        StringBuilder text = new StringBuilder();
        for (int i = 0; i < n; i++) {
            text.append(figure);
        }
        return text.toString();
    }
}
