import java.util.Random;

/** Runs of drawn calls, ordinary and wild ones: the class answers as the plain model of the document does. */
public final class ModelTest {
    private static final int RUNS = 1500;
    private static final int CALLS = 512;
    private static final int[] WILD = {Integer.MIN_VALUE, Integer.MIN_VALUE + 1, -1000000001, -2, -1, 8, 9, 10, 15, 20, 21, 30, 31,
        59, 60, 61, 100, 101, 255, 256, 15359, 15360, 65536, Integer.MAX_VALUE - 1, Integer.MAX_VALUE};

    private final Random random;
    private final RowsAloud x = new RowsAloud();
    private final Model model = new Model();
    private final StringBuilder story = new StringBuilder();
    /** How many unlike figures this run's rows are mostly told in: few make long runs. */
    private final int unlike;
    private int calls;

    private ModelTest(long run) {
        random = new Random(run);
        unlike = 1 + random.nextInt(10) % (1 + random.nextInt(10));
    }

    /** A number from 0 to most, now and then another. */
    private int some(int most) {
        if (random.nextInt(25) == 0) {
            return WILD[random.nextInt(WILD.length)];
        }
        return random.nextInt(12) == 0 ? most + random.nextInt(3) - 1 : random.nextInt(most + 1);
    }

    private int someFigure() {
        return random.nextInt(6) == 0 ? some(9) : random.nextInt(unlike);
    }

    private String figures(int n) {
        StringBuilder row = new StringBuilder();
        while (row.length() < n) {
            char figure = (char) ('0' + random.nextInt(unlike));
            row.append(String.valueOf(figure).repeat(random.nextInt(4) == 0 ? 1 + random.nextInt(20) : 1));
        }
        return row.substring(0, n);
    }

    private String someRow() {
        switch (random.nextInt(5)) {
            case 0: return figures(1 + random.nextInt(60));
            case 1: return figures(60);
            case 2: return upTo60(Model.reading(0, 1 + random.nextInt(9), figures(1 + random.nextInt(3))));
            case 3: return upTo60(Model.reading(random.nextInt(6), 1 + random.nextInt(3), figures(1 + random.nextInt(30))));
            default: return figures(1 + random.nextInt(8));
        }
    }

    private static String upTo60(String row) {
        return row.substring(0, Math.min(60, row.length()));
    }

    private String someText() {
        StringBuilder text = new StringBuilder("r").append(someRow()).append(';');
        String row = text.substring(1, text.length() - 1);
        int words = random.nextInt(7);
        for (int w = 0; w < words; w++) {
            int from = random.nextInt(row.length());
            String word = random.nextInt(3) == 0 ? figures(1 + random.nextInt(8)) : row.substring(from, Math.min(row.length(), from + 1 + random.nextInt(8)));
            if (w > 0 && random.nextInt(3) == 0) {
                word = upTo8(Model.reading(random.nextInt(6), word));
            }
            text.append('w').append(word).append(';');
        }
        return random.nextInt(3) == 0 ? spoiled(text) : text.toString();
    }

    private static String upTo8(String word) {
        return word.substring(0, Math.min(8, word.length()));
    }

    private String spoiled(StringBuilder text) {
        for (int i = random.nextInt(3); i >= 0; i--) {
            int place = random.nextInt(text.length() + 1);
            switch (random.nextInt(4)) {
                case 0: text.insert(place, ' '); break;
                case 1: text.insert(place, "rw;019 x".charAt(random.nextInt(8))); break;
                case 2: text.setLength(place); break;
                default: text.append("w1;".repeat(random.nextInt(4))).append(random.nextInt(2) == 0 ? " " : "");
            }
        }
        return text.toString();
    }

    private boolean alike(String call, int got, int want) {
        calls++;
        if (got == want) {
            story.append(' ').append(call).append('=').append(got);
            return true;
        }
        System.out.println("behind" + story + "\n" + call + " answered " + got + ", due is " + want);
        return false;
    }

    private boolean lay() {
        String text = someText();
        for (int i = 0; i < text.length() && calls < CALLS - 1; i++) {
            if (!alike("feed(" + (int) text.charAt(i) + ")", x.feed(text.charAt(i)), model.feed(text.charAt(i)))) {
                return false;
            }
        }
        return alike("desk()", x.desk(), model.desk()) && alike("fault()", x.fault(), model.fault());
    }

    private boolean one() {
        int a;
        int b;
        int c;
        switch (random.nextInt(40)) {
            case 0: return random.nextInt(8) != 0 || lay();
            case 1: a = some(255); return alike("feed(" + a + ")", x.feed(a), model.feed(a));
            case 2: return random.nextInt(8) != 0 || alike("desk()", x.desk(), model.desk());
            case 3: return alike("fault()", x.fault(), model.fault());
            case 4: case 5: a = some(13); return alike("told(" + a + ")", x.told(a), model.told(a));
            case 6: a = some(59); return alike("at(" + a + ")", x.at(a), model.at(a));
            case 7: a = some(5); b = some(7); return alike("spelt(" + a + ", " + b + ")", x.spelt(a, b), model.spelt(a, b));
            case 8: a = some(20); b = some(1); return alike("logged(" + a + ", " + b + ")", x.logged(a, b), model.logged(a, b));
            case 9: case 10: a = some(5); return alike("read(" + a + ")", x.read(a), model.read(a));
            case 11: case 12: return alike("unread()", x.unread(), model.unread());
            case 13: a = someFigure(); return alike("put(" + a + ")", x.put(a), model.put(a));
            case 14: a = some(5); return alike("word(" + a + ")", x.word(a), model.word(a));
            case 15: a = some(59); b = someFigure(); return alike("change(" + a + ", " + b + ")", x.change(a, b), model.change(a, b));
            case 16: a = some(12); return alike("drop(" + a + ")", x.drop(a), model.drop(a));
            case 17: return alike("turn()", x.turn(), model.turn());
            case 18: a = some(random.nextInt(3) == 0 ? 20 : 3); return alike("drift(" + a + ")", x.drift(a), model.drift(a));
            case 19: case 20: a = some(random.nextInt(5) == 0 ? 30 : 4); return alike("undo(" + a + ")", x.undo(a), model.undo(a));
            case 21: a = some(5); b = some(8); return alike("length(" + a + ", " + b + ")", x.length(a, b), model.length(a, b));
            case 22: a = some(5); b = some(8); c = some(random.nextInt(2) == 0 ? 900 : 20);
                return alike("figure(" + a + ", " + b + ", " + c + ")", x.figure(a, b, c), model.figure(a, b, c));
            case 23: a = some(5); b = some(8); c = some(9);
                return alike("often(" + a + ", " + b + ", " + c + ")", x.often(a, b, c), model.often(a, b, c));
            case 24: a = some(5); b = some(9); return alike("first(" + a + ", " + b + ")", x.first(a, b), model.first(a, b));
            case 25: a = some(1); return alike("again(" + a + ")", x.again(a), model.again(a));
            case 26: a = some(2); return alike("apart(" + a + ")", x.apart(a), model.apart(a));
            case 27: a = some(1); return alike("back(" + a + ")", x.back(a), model.back(a));
            case 28: a = some(5); return alike("in(" + a + ")", x.in(a), model.in(a));
            case 29: a = some(5); return alike("changes(" + a + ")", x.changes(a), model.changes(a));
            case 30: a = some(60); b = some(100); return alike("noSlip(" + a + ", " + b + ")", x.noSlip(a, b), model.noSlip(a, b));
            default: return another();
        }
    }

    private boolean another() {
        int a;
        int b;
        switch (random.nextInt(12)) {
            case 0: a = some(5); b = some(5); boolean is = random.nextInt(3) == 0;
                return alike("hear(" + a + ", " + b + ", " + is + ")", x.hear(a, b, is), model.hear(a, b, is));
            case 1: return alike("couldBe()", x.couldBe(), model.couldBe());
            case 2: return alike("ask()", x.ask(), model.ask());
            case 3: a = some(59); b = someFigure() - random.nextInt(2); return alike("write(" + a + ", " + b + ")", x.write(a, b), model.write(a, b));
            case 4: a = random.nextInt(60); b = model.at(a); return alike("write(" + a + ", " + b + ")", x.write(a, b), model.write(a, b));
            case 5: return alike("judge()", x.judge(), model.judge());
            case 6: return random.nextInt(6) != 0 || alike("tear()", x.tear(), model.tear());
            case 7: a = random.nextInt(2) == 0 ? some(99) : random.nextInt(); return alike("seed(" + a + ")", x.seed(a), model.seed(a));
            case 8: a = some(1); return random.nextInt(4) != 0 || alike("keep(" + a + ")", x.keep(a), model.keep(a));
            case 9: a = some(1); return random.nextInt(4) != 0 || alike("goBack(" + a + ")", x.goBack(a), model.goBack(a));
            case 10: a = some(9); return alike("at(" + a + ")", x.at(a), model.at(a));
            default: a = some(13); return alike("told(" + a + ")", x.told(a), model.told(a));
        }
    }

    private boolean run() {
        if (random.nextInt(8) != 0 && !lay()) {
            return false;
        }
        for (int i = 0; i < CALLS && calls < CALLS; i++) {
            if (!one()) {
                return false;
            }
        }
        return true;
    }

    public static void main(String[] args) {
        Checks checks = new Checks("ModelTest");
        int runs = args.length > 0 ? Integer.parseInt(args[0]) : RUNS;
        for (int run = 0; run < runs && checks.wrong() == 0; run++) {
            checks.holds("run " + run, new ModelTest(run).run());
        }
        checks.end();
    }
}
