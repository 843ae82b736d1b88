/**
 * Rows of figures that are read aloud, run by run, by six kinds of readers.
 * The document's promises say what each call answers; README.md says how to use it.
 */
public final class RowsAloud {
    public static final int NONE = -1, UNKNOWN = -1000000001, OUTSIDE = -1000000002, NOT = -1000000003, FULL = -1000000004;

    private static final int BILLION = 1000000000;
    private static final int MOST_FIGURES = 60;
    private static final int MOST_LETTERS = 240;
    private static final int GREATEST_LETTER = 255;
    private static final int MOST_WORDS = 6;
    private static final int MOST_IN_WORD = 8;
    private static final int MOST_LOGGED = 20;
    private static final int MOST_UNDONE = 30;
    private static final int MOST_READINGS = 90000;
    private static final int MOST_DRAWS = 20;
    private static final int MOST_TRIED = 8;
    private static final int MOST_AGAIN = 60;
    private static final int MOST_BACK = 60;
    private static final int MOST_SLIPS = 60;
    private static final int HUNDRED = 100;
    private static final int MOST_HEARD = 6;
    private static final int MOST_IN_BOOK = 20;
    private static final int IMAGES = 2;

    /** No reading is more than twice as long as its row, so no tried row is longer than 60 doubled eight times. */
    private static final int LONGEST = 15360;
    private static final int APART_READINGS = 6;

    private static final int FIGURES = 10;
    private static final int KINDS = 6;
    private static final int PLAIN = 0, TURNED = 1, FROM_BEHIND = 2, COUNTER = 3, NO_ONES = 4, HASTY = 5;

    /** How many can be said of a run in one part, and by one in haste. */
    private static final int PART = 9, HASTY_MOST = 3;

    private static final int FAULT_BASE = -10;
    private static final int CANNOT_STAND = 1, TOO_MANY_FIGURES = 2, TOO_MANY_CLAUSES = 3;

    private final DeskText text = new DeskText();
    private final WordList words = new WordList();
    private final State now = new State();
    private final Past past = new Past();
    private final Images images = new Images();
    private final Heard heard = new Heard();
    private final Book book = new Book();
    private final Trials trials = new Trials();
    private final Parting parting = new Parting();
    private final Figures spoken = new Figures(2 * MOST_FIGURES);
    private boolean hasDesk;
    private int seedNow;

    public RowsAloud() {
    }

    // ---- the desk

    public int feed(int letter) {
        if (letter < 0 || letter > GREATEST_LETTER) {
            return OUTSIDE;
        }
        return text.append(letter) ? text.count : FULL;
    }

    public int desk() {
        text.parse();
        text.count = 0;
        if (text.fault != 0) {
            return FAULT_BASE - text.fault;
        }
        layDesk();
        return now.row.count;
    }

    private void layDesk() {
        hasDesk = text.row.count > 0;
        now.begin(text.row);
        words.copyFrom(text.words);
        heard.count = 0;
        book.count = 0;
        images.clear();
        past.clear();
    }

    public int fault() {
        return text.faultAt;
    }

    public int told(int what) {
        switch (what) {
            case 0: return hasDesk ? 1 : 0;
            case 1: return now.row.count;
            case 2: return words.count;
            case 3: return text.count;
            case 4: return now.readings;
            case 5: return now.logCount;
            case 6: return now.row.runs();
            case 7: return now.row.longestRun();
            case 8: return now.row.get(now.row.longestRunStart());
            case 9: return now.row.unlike();
            case 10: return words.waysToTell(now.row);
            case 11: return heard.count;
            case 12: return book.count;
            case 13: return past.count;
            default: return OUTSIDE;
        }
    }

    public int at(int place) {
        return isPlace(place) ? now.row.get(place) : OUTSIDE;
    }

    public int spelt(int w, int k) {
        Figures word = words.get(w);
        if (word == null) {
            return UNKNOWN;
        }
        return k < 0 || k >= MOST_IN_WORD ? OUTSIDE : word.get(k);
    }

    public int logged(int i, int what) {
        if (what != 0 && what != 1) {
            return OUTSIDE;
        }
        return what == 0 ? now.loggedKind(i) : now.loggedSize(i);
    }

    // ---- deeds

    public int read(int kind) {
        if (!isKind(kind)) {
            return OUTSIDE;
        }
        if (now.readings >= MOST_READINGS) {
            return FULL;
        }
        Readers.say(kind, now.row, spoken);
        if (spoken.count > MOST_FIGURES) {
            return FULL;
        }
        past.remember(now);
        now.becomeReading(kind, spoken);
        return now.row.count;
    }

    public int unread() {
        int size = Readers.sizeUnsaid(now.row);
        if (size == NONE) {
            return NOT;
        }
        if (size > MOST_FIGURES) {
            return FULL;
        }
        past.remember(now);
        Readers.unsay(now.row, spoken);
        now.row.copyFrom(spoken);
        return now.row.count;
    }

    public int put(int figure) {
        if (!isFigure(figure)) {
            return OUTSIDE;
        }
        if (now.row.count >= MOST_FIGURES) {
            return FULL;
        }
        past.remember(now);
        now.row.add(figure);
        return now.row.count;
    }

    public int word(int w) {
        Figures word = words.get(w);
        if (word == null) {
            return UNKNOWN;
        }
        if (now.row.count + word.count > MOST_FIGURES) {
            return FULL;
        }
        past.remember(now);
        now.row.addAll(word);
        return now.row.count;
    }

    public int change(int place, int figure) {
        int was = now.row.get(place);
        if (was == NONE) {
            return UNKNOWN;
        }
        if (!isFigure(figure)) {
            return OUTSIDE;
        }
        past.remember(now);
        now.row.set(place, figure);
        return was;
    }

    public int drop(int n) {
        if (n < 0 || n > now.row.count) {
            return OUTSIDE;
        }
        past.remember(now);
        now.row.cut(n);
        return now.row.count;
    }

    public int turn() {
        past.remember(now);
        now.row.reverse();
        return now.row.get(0);
    }

    public int drift(int n) {
        if (n < 1 || n > MOST_DRAWS) {
            return OUTSIDE;
        }
        if (now.readings >= MOST_READINGS) {
            return FULL;
        }
        for (int i = 0; i < n; i++) {
            past.remember(now);
            driftOnce();
        }
        return now.row.count;
    }

    private void driftOnce() {
        int what = draw(KINDS + 2);
        if (what < KINDS) {
            Readers.say(what, now.row, spoken);
            if (spoken.count <= MOST_FIGURES) {
                now.becomeReading(what, spoken);
            }
        } else if (what == KINDS) {
            // A full row takes no figure, and so none is drawn for it.
            if (now.row.count < MOST_FIGURES) {
                now.row.add(draw(FIGURES));
            }
        } else {
            now.row.cut(draw(now.row.count + 1));
        }
    }

    private int draw(int n) {
        seedNow = (int) ((seedNow * 1103515245L + 12345L) & 0x7fffffffL);
        return n > 0 ? seedNow / 65536 % n : 0;
    }

    public int undo(int n) {
        if (n < 1 || n > MOST_UNDONE) {
            return OUTSIDE;
        }
        if (n > past.count) {
            return NOT;
        }
        past.restore(n, now);
        return now.row.count;
    }

    // ---- tried

    public int length(int kind, int n) {
        if (!isTried(kind, n)) {
            return OUTSIDE;
        }
        return trials.readOn(kind, n, now.row).count;
    }

    public int figure(int kind, int n, int place) {
        if (!isTried(kind, n) || place < 0 || place >= LONGEST) {
            return OUTSIDE;
        }
        return trials.readOn(kind, n, now.row).get(place);
    }

    public int often(int kind, int n, int figure) {
        if (!isTried(kind, n) || !isFigure(figure)) {
            return OUTSIDE;
        }
        return trials.readOn(kind, n, now.row).countOf(figure);
    }

    public int first(int kind, int figure) {
        if (!isKind(kind) || !isFigure(figure)) {
            return OUTSIDE;
        }
        return trials.firstWith(kind, figure, now.row);
    }

    public int again(int what) {
        if (what != 0 && what != 1) {
            return OUTSIDE;
        }
        int behind = trials.comesAgain(now.row);
        return what == 0 ? behind : trials.likeWhich;
    }

    public int apart(int what) {
        if (what < 0 || what > 2) {
            return OUTSIDE;
        }
        parting.find(now.row, trials);
        switch (what) {
            case 0: return parting.count;
            case 1: return parting.firstPlace();
            default: return parting.longestPart(now.row.count);
        }
    }

    public int back(int what) {
        if (what != 0 && what != 1) {
            return OUTSIDE;
        }
        int times = trials.goOld(now.row);
        return what == 0 ? times : trials.row.count;
    }

    public int in(int w) {
        Figures word = words.get(w);
        return word == null ? UNKNOWN : now.row.placeOf(word);
    }

    public int changes(int w) {
        Figures word = words.get(w);
        return word == null ? UNKNOWN : words.fewestChanges(now.row, word);
    }

    public int noSlip(int n, int q) {
        if (n < 0 || n > MOST_SLIPS || q < 0 || q > HUNDRED) {
            return OUTSIDE;
        }
        long odds = BILLION;
        for (int i = 0; i < n; i++) {
            odds = odds * q / HUNDRED;
        }
        return (int) odds;
    }

    // ---- what is heard

    public int hear(int w, int said, boolean is) {
        if (words.get(w) == null || words.get(said) == null) {
            return UNKNOWN;
        }
        return heard.append(w, said, is) ? heard.count : FULL;
    }

    public int couldBe() {
        return heard.kindsThatFit(words);
    }

    public int ask() {
        return heard.bestToAsk(words, heard.kindsThatFit(words));
    }

    public int write(int place, int figure) {
        if (!isPlace(place) || figure != NONE && !isFigure(figure)) {
            return OUTSIDE;
        }
        return book.append(place, figure) ? book.count : FULL;
    }

    public int judge() {
        return book.firstWrong(now.row);
    }

    public int tear() {
        int both = heard.count + book.count;
        heard.count = 0;
        book.count = 0;
        return both;
    }

    // ---- images

    public int seed(int v) {
        if (v < 0) {
            return OUTSIDE;
        }
        int was = seedNow;
        seedNow = v;
        return was;
    }

    public int keep(int i) {
        if (!images.has(i)) {
            return UNKNOWN;
        }
        images.take(i, now, seedNow);
        past.clear();
        return 1;
    }

    public int goBack(int i) {
        if (!images.has(i)) {
            return UNKNOWN;
        }
        if (!images.isKept(i)) {
            return NOT;
        }
        images.give(i, now);
        seedNow = images.seedOf(i);
        past.clear();
        return 1;
    }

    // ---- bounds

    private static boolean isKind(int kind) {
        return kind >= 0 && kind < KINDS;
    }

    private static boolean isFigure(int figure) {
        return figure >= 0 && figure < FIGURES;
    }

    private static boolean isPlace(int place) {
        return place >= 0 && place < MOST_FIGURES;
    }

    private static boolean isTried(int kind, int n) {
        return isKind(kind) && n >= 0 && n <= MOST_TRIED;
    }

    /** Figures side by side. Every index is looked at here, so that no caller can go astray. */
    private static final class Figures {
        byte[] cells;
        int count;

        Figures(int room) {
            cells = new byte[Math.max(room, 0)];
        }

        /** Emptied, with room for so many: tried rows alone ever need more room than they were made with. */
        void startOver(int most) {
            count = 0;
            if (most > cells.length && cells.length < LONGEST) {
                cells = new byte[Math.min(LONGEST, 2 * most)];
            }
        }

        int get(int place) {
            return place >= 0 && place < count ? cells[place] : NONE;
        }

        void set(int place, int figure) {
            if (place >= 0 && place < count) {
                cells[place] = (byte) figure;
            }
        }

        boolean add(int figure) {
            if (count >= cells.length) {
                return false;
            }
            cells[count] = (byte) figure;
            count++;
            return true;
        }

        void addAll(Figures other) {
            for (int i = 0; i < other.count; i++) {
                add(other.cells[i]);
            }
        }

        void cut(int n) {
            count = Math.max(0, count - Math.max(0, n));
        }

        void reverse() {
            for (int i = 0; i < count / 2; i++) {
                byte kept = cells[i];
                cells[i] = cells[count - 1 - i];
                cells[count - 1 - i] = kept;
            }
        }

        void copyFrom(Figures other) {
            startOver(other.count);
            int n = Math.min(other.count, cells.length);
            System.arraycopy(other.cells, 0, cells, 0, n);
            count = n;
        }

        boolean same(Figures other) {
            return count == other.count && standsAt(0, other);
        }

        boolean standsAt(int place, Figures other) {
            if (place < 0 || other.count > count - place) {
                return false;
            }
            for (int i = 0; i < other.count; i++) {
                if (cells[place + i] != other.cells[i]) {
                    return false;
                }
            }
            return true;
        }

        int placeOf(Figures other) {
            for (int place = 0; place + other.count <= count; place++) {
                if (standsAt(place, other)) {
                    return place;
                }
            }
            return NONE;
        }

        int countOf(int figure) {
            int times = 0;
            for (int i = 0; i < count; i++) {
                if (cells[i] == figure) {
                    times++;
                }
            }
            return times;
        }

        boolean has(int figure) {
            for (int i = 0; i < count; i++) {
                if (cells[i] == figure) {
                    return true;
                }
            }
            return false;
        }

        int unlike() {
            int unlike = 0;
            for (int figure = 0; figure < FIGURES; figure++) {
                if (has(figure)) {
                    unlike++;
                }
            }
            return unlike;
        }

        int runs() {
            int runs = 0;
            for (int i = 0; i < count; i++) {
                if (get(i) != get(i - 1)) {
                    runs++;
                }
            }
            return runs;
        }

        int runFrom(int place) {
            int many = 0;
            for (int i = place; i < count && get(i) == get(place); i++) {
                many++;
            }
            return many;
        }

        int longestRun() {
            int start = longestRunStart();
            return start == NONE ? NONE : runFrom(start);
        }

        int longestRunStart() {
            int best = NONE;
            int most = 0;
            for (int i = 0; i < count; i++) {
                int many = get(i) != get(i - 1) ? runFrom(i) : 0;
                if (many > most) {
                    most = many;
                    best = i;
                }
            }
            return best;
        }
    }

    /** What readers say of a row, and the row that a plain reader's words tell of. */
    private static final class Readers {
        private Readers() {
        }

        static void say(int kind, Figures from, Figures to) {
            to.startOver(2 * from.count);
            if (kind == COUNTER) {
                sayCounts(from, to);
            } else {
                sayRuns(kind, from, to);
            }
        }

        private static void sayCounts(Figures from, Figures to) {
            for (int figure = 0; figure < FIGURES; figure++) {
                sayMany(COUNTER, from.countOf(figure), figure, to);
            }
        }

        private static void sayRuns(int kind, Figures from, Figures to) {
            int last = NONE;
            int many = 0;
            for (int i = 0; i < from.count; i++) {
                int figure = from.cells[kind == FROM_BEHIND ? from.count - 1 - i : i];
                if (figure != last) {
                    sayMany(kind, many, last, to);
                    last = figure;
                    many = 0;
                }
                many++;
            }
            sayMany(kind, many, last, to);
        }

        private static void sayMany(int kind, int many, int figure, Figures to) {
            int left = kind == HASTY ? Math.min(many, HASTY_MOST) : many;
            for (; left > 0; left -= PART) {
                int part = left < PART ? left : PART;
                boolean sayHowMany = kind != NO_ONES || part > 1;
                if (sayHowMany) {
                    to.add(kind == TURNED ? figure : part);
                }
                to.add(kind == TURNED ? part : figure);
            }
        }

        /** How many figures the row had that is told of; NONE if nobody could have said this one. */
        static int sizeUnsaid(Figures row) {
            if (row.count % 2 != 0) {
                return NONE;
            }
            int size = 0;
            for (int i = 0; i + 1 < row.count; i += 2) {
                int many = row.get(i);
                boolean goesOn = i > 0 && row.get(i - 1) == row.get(i + 1);
                if (many == 0 || goesOn && row.get(i - 2) != PART) {
                    return NONE;
                }
                size += many;
            }
            return size;
        }

        static void unsay(Figures row, Figures to) {
            to.startOver(MOST_FIGURES);
            for (int i = 0; i + 1 < row.count; i += 2) {
                for (int many = row.get(i); many > 0; many--) {
                    to.add(row.get(i + 1));
                }
            }
        }
    }

    /** All that deeds change, but for the seed: the row, how often it was read, the log (0 the latest). */
    private static final class State {
        final Figures row = new Figures(MOST_FIGURES);
        final byte[] logKinds = new byte[MOST_LOGGED];
        final byte[] logSizes = new byte[MOST_LOGGED];
        int logCount;
        int readings;

        void begin(Figures first) {
            row.copyFrom(first);
            logCount = 0;
            readings = 0;
        }

        void copyFrom(State other) {
            row.copyFrom(other.row);
            System.arraycopy(other.logKinds, 0, logKinds, 0, MOST_LOGGED);
            System.arraycopy(other.logSizes, 0, logSizes, 0, MOST_LOGGED);
            logCount = other.logCount;
            readings = other.readings;
        }

        void becomeReading(int kind, Figures said) {
            logReading(kind);
            row.copyFrom(said);
            readings++;
        }

        private void logReading(int kind) {
            for (int i = MOST_LOGGED - 1; i > 0; i--) {
                logKinds[i] = logKinds[i - 1];
                logSizes[i] = logSizes[i - 1];
            }
            logKinds[0] = (byte) kind;
            logSizes[0] = (byte) row.count;
            logCount = Math.min(MOST_LOGGED, logCount + 1);
        }

        int loggedKind(int i) {
            return i >= 0 && i < logCount ? logKinds[i] : NONE;
        }

        int loggedSize(int i) {
            return i >= 0 && i < logCount ? logSizes[i] : NONE;
        }
    }

    /** The states ahead of the latest deeds, in a ring: the oldest gives way. */
    private static final class Past {
        final State[] states = new State[MOST_UNDONE];
        int next;
        int count;

        Past() {
            for (int i = 0; i < MOST_UNDONE; i++) {
                states[i] = new State();
            }
        }

        void clear() {
            count = 0;
        }

        void remember(State now) {
            states[next].copyFrom(now);
            next = (next + 1) % MOST_UNDONE;
            count = Math.min(MOST_UNDONE, count + 1);
        }

        void restore(int n, State now) {
            if (n < 1 || n > count) {
                return;
            }
            next = (next + MOST_UNDONE - n) % MOST_UNDONE;
            count -= n;
            now.copyFrom(states[next]);
        }
    }

    /** The two images: a state and a seed each, if kept. */
    private static final class Images {
        final State[] states = new State[IMAGES];
        final int[] seeds = new int[IMAGES];
        final boolean[] kept = new boolean[IMAGES];

        Images() {
            for (int i = 0; i < IMAGES; i++) {
                states[i] = new State();
            }
        }

        void clear() {
            for (int i = 0; i < IMAGES; i++) {
                kept[i] = false;
            }
        }

        boolean has(int i) {
            return i >= 0 && i < IMAGES;
        }

        boolean isKept(int i) {
            return has(i) && kept[i];
        }

        void take(int i, State now, int seed) {
            if (has(i)) {
                states[i].copyFrom(now);
                seeds[i] = seed;
                kept[i] = true;
            }
        }

        void give(int i, State now) {
            if (has(i)) {
                now.copyFrom(states[i]);
            }
        }

        int seedOf(int i) {
            return has(i) ? seeds[i] : 0;
        }
    }

    /** The words of a desk, and what a row has to do with them. */
    private static final class WordList {
        final Figures[] list = new Figures[MOST_WORDS];
        final int[] ways = new int[MOST_FIGURES + 1];
        final int[] costs = new int[MOST_IN_WORD + 1];
        int count;

        WordList() {
            for (int w = 0; w < MOST_WORDS; w++) {
                list[w] = new Figures(MOST_IN_WORD);
            }
        }

        /** The word of that number; null if there is none. */
        Figures get(int w) {
            return w >= 0 && w < count ? list[w] : null;
        }

        /** A new word behind the others, still without figures; null if there are too many. */
        Figures open() {
            if (count >= MOST_WORDS) {
                return null;
            }
            Figures word = list[count];
            word.count = 0;
            count++;
            return word;
        }

        void copyFrom(WordList other) {
            count = other.count;
            for (int w = 0; w < count; w++) {
                list[w].copyFrom(other.list[w]);
            }
        }

        int waysToTell(Figures row) {
            int last = Math.min(row.count, MOST_FIGURES);
            ways[0] = 1;
            for (int end = 1; end <= last; end++) {
                ways[end] = waysToEnd(row, end);
            }
            return ways[last];
        }

        private int waysToEnd(Figures row, int end) {
            int sum = 0;
            for (int w = 0; w < count; w++) {
                int start = end - list[w].count;
                if (start >= 0 && row.standsAt(start, list[w])) {
                    sum = Math.min(BILLION, sum + ways[start]);
                }
            }
            return sum;
        }

        int fewestChanges(Figures row, Figures word) {
            int last = Math.min(word.count, MOST_IN_WORD);
            for (int j = 0; j <= last; j++) {
                costs[j] = j;
            }
            for (int i = 0; i < row.count; i++) {
                takeIn(row.get(i), word, last);
            }
            return costs[last];
        }

        /** The costs for the row so far become those with one more figure in it. */
        private void takeIn(int figure, Figures word, int last) {
            int aslant = costs[0];
            costs[0]++;
            for (int j = 1; j <= last; j++) {
                int changed = aslant + (word.get(j - 1) == figure ? 0 : 1);
                aslant = costs[j];
                costs[j] = Math.min(changed, Math.min(costs[j], costs[j - 1]) + 1);
            }
        }
    }

    /** The text, and what it tells: a row and words of its own, so that a faulty text leaves the desk as it was. */
    private static final class DeskText {
        final char[] letters = new char[MOST_LETTERS];
        final Figures row = new Figures(MOST_FIGURES);
        final WordList words = new WordList();
        int count;
        int fault;
        int faultAt = NONE;
        private Figures open;

        boolean append(int letter) {
            if (count >= MOST_LETTERS) {
                return false;
            }
            letters[count] = (char) letter;
            count++;
            return true;
        }

        void parse() {
            row.count = 0;
            words.count = 0;
            open = null;
            fault = 0;
            faultAt = NONE;
            for (int i = 0; i < count && fault == 0; i++) {
                noteFault(takeLetter(letters[i]), i);
            }
            if (fault == 0 && open != null) {
                noteFault(CANNOT_STAND, count);
            }
        }

        private void noteFault(int number, int place) {
            if (number != 0) {
                fault = number;
                faultAt = place;
            }
        }

        /** The number of the letter's fault; 0 if it has none. */
        private int takeLetter(int letter) {
            if (letter == ' ') {
                return 0;
            }
            return open == null ? openClause(letter) : goOn(letter, open);
        }

        private int openClause(int letter) {
            boolean hasRow = row.count > 0;
            if (letter != 'r' && (letter != 'w' || !hasRow)) {
                return CANNOT_STAND;
            }
            if (letter == 'w') {
                open = words.open();
            } else if (!hasRow) {
                open = row;
            }
            return open == null ? TOO_MANY_CLAUSES : 0;
        }

        private int goOn(int letter, Figures clause) {
            if (letter >= '0' && letter <= '9') {
                return clause.add(letter - '0') ? 0 : TOO_MANY_FIGURES;
            }
            if (letter != ';' || clause.count == 0) {
                return CANNOT_STAND;
            }
            open = null;
            return 0;
        }
    }

    /** What a reader of an unknown kind was heard to say, and not to say. */
    private static final class Heard {
        final int[] readWords = new int[MOST_HEARD];
        final int[] saidWords = new int[MOST_HEARD];
        final boolean[] wasSaid = new boolean[MOST_HEARD];
        final Figures[] readings = new Figures[KINDS];
        int count;

        Heard() {
            for (int kind = 0; kind < KINDS; kind++) {
                readings[kind] = new Figures(2 * MOST_IN_WORD);
            }
        }

        boolean append(int readWord, int saidWord, boolean is) {
            if (count >= MOST_HEARD) {
                return false;
            }
            readWords[count] = readWord;
            saidWords[count] = saidWord;
            wasSaid[count] = is;
            count++;
            return true;
        }

        int kindsThatFit(WordList words) {
            int set = 0;
            for (int kind = 0; kind < KINDS; kind++) {
                if (fits(kind, words)) {
                    set |= 1 << kind;
                }
            }
            return set;
        }

        private boolean fits(int kind, WordList words) {
            for (int i = 0; i < count; i++) {
                Figures word = words.get(readWords[i]);
                Figures answer = words.get(saidWords[i]);
                if (word != null && answer != null) {
                    Readers.say(kind, word, readings[kind]);
                    if (readings[kind].same(answer) != wasSaid[i]) {
                        return false;
                    }
                }
            }
            return true;
        }

        /** The word by which the kinds of that set are told apart best. */
        int bestToAsk(WordList words, int kinds) {
            int best = NONE;
            int least = Integer.bitCount(kinds);
            for (int w = 0; w < words.count; w++) {
                int greatest = greatestPart(words.list[w], kinds);
                if (greatest < least) {
                    least = greatest;
                    best = w;
                }
            }
            return best;
        }

        /** How many of the kinds read the word alike, at most. */
        private int greatestPart(Figures word, int kinds) {
            for (int kind = 0; kind < KINDS; kind++) {
                Readers.say(kind, word, readings[kind]);
            }
            int greatest = 0;
            for (int kind = 0; kind < KINDS; kind++) {
                if ((kinds >> kind & 1) == 1) {
                    greatest = Math.max(greatest, howManyLike(kind, kinds));
                }
            }
            return greatest;
        }

        private int howManyLike(int kind, int kinds) {
            int like = 0;
            for (int other = 0; other < KINDS; other++) {
                if ((kinds >> other & 1) == 1 && readings[kind].same(readings[other])) {
                    like++;
                }
            }
            return like;
        }
    }

    /** Which figure is said to be at which place. */
    private static final class Book {
        final byte[] places = new byte[MOST_IN_BOOK];
        final byte[] figures = new byte[MOST_IN_BOOK];
        int count;

        boolean append(int place, int figure) {
            if (count >= MOST_IN_BOOK) {
                return false;
            }
            places[count] = (byte) place;
            figures[count] = (byte) figure;
            count++;
            return true;
        }

        int firstWrong(Figures row) {
            for (int i = 0; i < count; i++) {
                if (row.get(places[i]) != figures[i]) {
                    return i;
                }
            }
            return NONE;
        }
    }

    /** Rows that are read on, or back, for a trial: the row itself stays as it is. */
    private static final class Trials {
        Figures row = new Figures(2 * MOST_FIGURES);
        private Figures other = new Figures(2 * MOST_FIGURES);
        private final Figures[] rounds = new Figures[MOST_AGAIN + 1];
        int likeWhich;

        Trials() {
            for (int n = 0; n <= MOST_AGAIN; n++) {
                rounds[n] = new Figures(MOST_FIGURES);
            }
        }

        void begin(Figures start) {
            row.copyFrom(start);
        }

        Figures readOn(int kind, int n, Figures start) {
            begin(start);
            for (int i = 0; i < n; i++) {
                step(kind);
            }
            return row;
        }

        void step(int kind) {
            Readers.say(kind, row, other);
            swap();
        }

        private void swap() {
            Figures kept = row;
            row = other;
            other = kept;
        }

        int firstWith(int kind, int figure, Figures start) {
            begin(start);
            for (int n = 0; n <= MOST_TRIED; n++) {
                if (n > 0) {
                    step(kind);
                }
                if (row.has(figure)) {
                    return n;
                }
            }
            return NONE;
        }

        /** Behind how many readings by a counter a row comes again; likeWhich tells which one it is like. */
        int comesAgain(Figures start) {
            rounds[0].copyFrom(start);
            for (int n = 1; n <= MOST_AGAIN; n++) {
                Readers.say(COUNTER, rounds[n - 1], rounds[n]);
                likeWhich = firstLike(n);
                if (likeWhich != NONE) {
                    return n;
                }
            }
            return NONE;
        }

        private int firstLike(int n) {
            for (int m = 0; m < n; m++) {
                if (rounds[m].same(rounds[n])) {
                    return m;
                }
            }
            return NONE;
        }

        /** How often the row can be unread; the oldest row stands in row then. */
        int goOld(Figures start) {
            begin(start);
            for (int times = 0; times < MOST_BACK; times++) {
                int size = Readers.sizeUnsaid(row);
                if (size <= 0 || size > MOST_FIGURES) {
                    return times;
                }
                Readers.unsay(row, other);
                if (other.same(row)) {
                    return times;
                }
                swap();
            }
            return MOST_BACK;
        }
    }

    /**
     * Where a row falls apart. A place is followed through the readings of the whole by where it stands in them:
     * as long as nothing was said across it, what is ahead of it and behind it are the parts read by themselves.
     */
    private static final class Parting {
        final int[] places = new int[MOST_FIGURES];
        final int[] standing = new int[MOST_FIGURES];
        int count;

        void find(Figures row, Trials trials) {
            count = 0;
            for (int place = 1; place < row.count && place < MOST_FIGURES; place++) {
                places[count] = place;
                standing[count] = place;
                count++;
            }
            trials.begin(row);
            for (int n = 0; n < APART_READINGS; n++) {
                follow(trials.row);
                trials.step(PLAIN);
            }
        }

        /**
         * A reading says something across a place just if the place is inside a run, unless a part of nine
         * ends there: then the run is said in the same parts, whole or cut.
         */
        private void follow(Figures row) {
            int said = 0;
            int last = NONE;
            int many = 0;
            int next = 0;
            int kept = 0;
            for (int i = 0; i < row.count && next < count; i++) {
                if (row.get(i) != last) {
                    said += 2 * ((many + PART - 1) / PART);
                    last = row.get(i);
                    many = 0;
                }
                if (standing[next] == i) {
                    if (many % PART == 0) {
                        places[kept] = places[next];
                        standing[kept] = said + 2 * (many / PART);
                        kept++;
                    }
                    next++;
                }
                many++;
            }
            count = kept;
        }

        int firstPlace() {
            return count > 0 ? places[0] : NONE;
        }

        int longestPart(int end) {
            int longest = 0;
            int start = 0;
            for (int i = 0; i < count; i++) {
                longest = Math.max(longest, places[i] - start);
                start = places[i];
            }
            return Math.max(longest, end - start);
        }
    }
}
