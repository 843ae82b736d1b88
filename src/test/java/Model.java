import java.math.BigInteger;
import java.util.ArrayDeque;
import java.util.ArrayList;
import java.util.HashMap;
import java.util.List;
import java.util.Map;
import java.util.TreeMap;
import java.util.regex.Matcher;
import java.util.regex.Pattern;

/**
 * The document told again, as slowly and plainly as it can be, over texts: what the class answers is held against it.
 * It shares no code and no way of counting with the class.
 */
final class Model {
    private static final int NONE = -1, UNKNOWN = -1000000001, OUTSIDE = -1000000002, NOT = -1000000003, FULL = -1000000004;

    /** Section 2: a row, readings, a log of {kind, figures}, the latest first. */
    private record Section2(String row, int readings, List<int[]> log) {
        Section2 with(String next) {
            return new Section2(next, readings, log);
        }

        Section2 readBy(int kind, String next) {
            List<int[]> more = new ArrayList<>(log);
            more.add(0, new int[] {kind, row.length()});
            return new Section2(next, readings + 1, more.subList(0, Math.min(20, more.size())));
        }
    }

    private record Image(Section2 state, long seed) { }

    private record Said(int w, int said, boolean is) { }

    private record Entry(int place, int figure) { }

    private String text = "";
    private int faultAt = NONE;
    private boolean hasDesk;
    private List<String> words = new ArrayList<>();
    private Section2 now = new Section2("", 0, new ArrayList<>());
    private final ArrayDeque<Section2> past = new ArrayDeque<>();
    private final List<Said> heard = new ArrayList<>();
    private final List<Entry> book = new ArrayList<>();
    private final Map<Integer, Image> images = new HashMap<>();
    private long seed;

    // ---- readings

    private static String part(int kind, int many, char figure) {
        if (kind == 1) {
            return "" + figure + many;
        }
        return kind == 4 && many == 1 ? "" + figure : "" + many + figure;
    }

    private static String told(int kind, int many, char figure) {
        if (kind == 5 && many >= 3) {
            return "3" + figure;
        }
        StringBuilder said = new StringBuilder();
        for (int nines = 0; nines < many / 9; nines++) {
            said.append(part(kind, 9, figure));
        }
        return many % 9 == 0 ? said.toString() : said + part(kind, many % 9, figure);
    }

    static String reading(int kind, String row) {
        StringBuilder said = new StringBuilder();
        if (kind == 3) {
            TreeMap<Character, Integer> tally = new TreeMap<>();
            for (char c : row.toCharArray()) {
                tally.merge(c, 1, Integer::sum);
            }
            tally.forEach((figure, many) -> said.append(told(3, many, figure)));
            return said.toString();
        }
        String from = kind == 2 ? new StringBuilder(row).reverse().toString() : row;
        Matcher runs = Pattern.compile("(.)\\1*").matcher(from);
        while (runs.find()) {
            said.append(told(kind, runs.group().length(), runs.group().charAt(0)));
        }
        return said.toString();
    }

    static String reading(int kind, int n, String row) {
        String said = row;
        for (int i = 0; i < n; i++) {
            said = reading(kind, said);
        }
        return said;
    }

    /** The row that a plain reader read; null if nobody could have said it: said again, it must be the same. */
    private static String unreading(String row) {
        if (row.length() % 2 != 0) {
            return null;
        }
        StringBuilder was = new StringBuilder();
        for (int i = 0; i < row.length(); i += 2) {
            was.append(String.valueOf(row.charAt(i + 1)).repeat(row.charAt(i) - '0'));
        }
        return reading(0, was.toString()).equals(row) ? was.toString() : null;
    }

    // ---- the desk

    int feed(int letter) {
        if (letter < 0 || letter > 255) {
            return OUTSIDE;
        }
        if (text.length() == 240) {
            return FULL;
        }
        text += (char) letter;
        return text.length();
    }

    int desk() {
        String letters = text;
        text = "";
        faultAt = NONE;
        // The longest beginning that some text without a fault goes on from: behind it stands the fault.
        Pattern begun = Pattern.compile("( *|( *r *(\\d *){0,60})|( *r *(\\d *){1,60}(; *w *(\\d *){1,8}){0,6}; *)"
            + "|( *r *(\\d *){1,60}(; *w *(\\d *){1,8}){0,5}; *w *(\\d *){0,8}))");
        Pattern whole = Pattern.compile(" *|( *r *(\\d *){1,60}; *(w *(\\d *){1,8}; *){0,6})");
        if (!whole.matcher(letters).matches()) {
            int good = letters.length();
            while (!begun.matcher(letters.substring(0, good)).matches()) {
                good--;
            }
            faultAt = good;
            return -10 - faultNumber(letters.substring(0, good), good < letters.length() ? letters.charAt(good) : 0);
        }
        String bare = letters.replace(" ", "");
        hasDesk = !bare.isEmpty();
        words = new ArrayList<>();
        String row = "";
        for (String clause : bare.isEmpty() ? new String[0] : bare.split(";")) {
            if (clause.charAt(0) == 'r') {
                row = clause.substring(1);
            } else {
                words.add(clause.substring(1));
            }
        }
        now = new Section2(row, 0, new ArrayList<>());
        past.clear();
        heard.clear();
        book.clear();
        images.clear();
        return row.length();
    }

    private static int faultNumber(String good, char letter) {
        String bare = good.replace(" ", "");
        if (bare.endsWith(";") && (letter == 'r' || letter == 'w')) {
            return 3;
        }
        return letter >= '0' && letter <= '9' && !bare.isEmpty() && !bare.endsWith(";") ? 2 : 1;
    }

    int fault() {
        return faultAt;
    }

    int told(int what) {
        String row = now.row();
        List<String> runs = new ArrayList<>();
        Matcher m = Pattern.compile("(.)\\1*").matcher(row);
        while (m.find()) {
            runs.add(m.group());
        }
        String longest = "";
        for (String run : runs) {
            longest = run.length() > longest.length() ? run : longest;
        }
        int[] told = {hasDesk ? 1 : 0, row.length(), words.size(), text.length(), now.readings(), now.log().size(), runs.size(),
            row.isEmpty() ? NONE : longest.length(), row.isEmpty() ? NONE : longest.charAt(0) - '0',
            (int) row.chars().distinct().count(), ways(row), heard.size(), book.size(), past.size()};
        return what < 0 || what >= told.length ? OUTSIDE : told[what];
    }

    private int ways(String row) {
        BigInteger[] ways = new BigInteger[row.length() + 1];
        ways[row.length()] = BigInteger.ONE;
        for (int i = row.length() - 1; i >= 0; i--) {
            ways[i] = BigInteger.ZERO;
            for (String word : words) {
                if (row.startsWith(word, i)) {
                    ways[i] = ways[i].add(ways[i + word.length()]);
                }
            }
        }
        return ways[0].min(BigInteger.valueOf(1000000000)).intValue();
    }

    private int figureAt(String row, int place) {
        return place < row.length() ? row.charAt(place) - '0' : NONE;
    }

    int at(int place) {
        return place < 0 || place > 59 ? OUTSIDE : figureAt(now.row(), place);
    }

    private boolean noWord(int w) {
        return w < 0 || w >= words.size();
    }

    int spelt(int w, int k) {
        if (noWord(w)) {
            return UNKNOWN;
        }
        return k < 0 || k > 7 ? OUTSIDE : figureAt(words.get(w), k);
    }

    int logged(int i, int what) {
        if (what < 0 || what > 1) {
            return OUTSIDE;
        }
        return i < 0 || i >= now.log().size() ? NONE : now.log().get(i)[what];
    }

    // ---- deeds

    private int become(Section2 next) {
        past.addLast(now);
        if (past.size() > 30) {
            past.removeFirst();
        }
        now = next;
        return now.row().length();
    }

    int read(int kind) {
        if (kind < 0 || kind > 5) {
            return OUTSIDE;
        }
        String said = reading(kind, now.row());
        return said.length() > 60 ? FULL : become(now.readBy(kind, said));
    }

    int unread() {
        String was = unreading(now.row());
        if (was == null) {
            return NOT;
        }
        return was.length() > 60 ? FULL : become(now.with(was));
    }

    int put(int figure) {
        if (figure < 0 || figure > 9) {
            return OUTSIDE;
        }
        return now.row().length() == 60 ? FULL : become(now.with(now.row() + figure));
    }

    int word(int w) {
        if (noWord(w)) {
            return UNKNOWN;
        }
        String longer = now.row() + words.get(w);
        return longer.length() > 60 ? FULL : become(now.with(longer));
    }

    int change(int place, int figure) {
        String row = now.row();
        if (place < 0 || place >= row.length()) {
            return UNKNOWN;
        }
        if (figure < 0 || figure > 9) {
            return OUTSIDE;
        }
        become(now.with(row.substring(0, place) + figure + row.substring(place + 1)));
        return row.charAt(place) - '0';
    }

    int drop(int n) {
        if (n < 0 || n > now.row().length()) {
            return OUTSIDE;
        }
        return become(now.with(now.row().substring(0, now.row().length() - n)));
    }

    int turn() {
        become(now.with(new StringBuilder(now.row()).reverse().toString()));
        return figureAt(now.row(), 0);
    }

    private int draw(int n) {
        BigInteger next = BigInteger.valueOf(seed).multiply(BigInteger.valueOf(1103515245)).add(BigInteger.valueOf(12345));
        seed = next.mod(BigInteger.ONE.shiftLeft(31)).longValue();
        return (int) (seed / 65536 % n);
    }

    int drift(int n) {
        if (n < 1 || n > 20) {
            return OUTSIDE;
        }
        for (int i = 0; i < n; i++) {
            int d = draw(8);
            Section2 next = now;
            String row = now.row();
            if (d <= 5 && reading(d, row).length() <= 60) {
                next = now.readBy(d, reading(d, row));
            } else if (d == 6 && row.length() < 60) {
                next = now.with(row + draw(10));
            } else if (d == 7) {
                next = now.with(row.substring(0, row.length() - draw(row.length() + 1)));
            }
            become(next);
        }
        return now.row().length();
    }

    int undo(int n) {
        if (n < 1 || n > 30) {
            return OUTSIDE;
        }
        if (n > past.size()) {
            return NOT;
        }
        for (int i = 0; i < n; i++) {
            now = past.removeLast();
        }
        return now.row().length();
    }

    // ---- tried

    private static boolean outside(int number, int most) {
        return number < 0 || number > most;
    }

    int length(int kind, int n) {
        return outside(kind, 5) || outside(n, 8) ? OUTSIDE : reading(kind, n, now.row()).length();
    }

    int figure(int kind, int n, int place) {
        if (outside(kind, 5) || outside(n, 8) || outside(place, 15359)) {
            return OUTSIDE;
        }
        return figureAt(reading(kind, n, now.row()), place);
    }

    int often(int kind, int n, int figure) {
        if (outside(kind, 5) || outside(n, 8) || outside(figure, 9)) {
            return OUTSIDE;
        }
        return (int) reading(kind, n, now.row()).chars().filter(c -> c == '0' + figure).count();
    }

    int first(int kind, int figure) {
        if (outside(kind, 5) || outside(figure, 9)) {
            return OUTSIDE;
        }
        for (int n = 0; n <= 8; n++) {
            if (reading(kind, n, now.row()).indexOf('0' + figure) >= 0) {
                return n;
            }
        }
        return NONE;
    }

    int again(int what) {
        if (outside(what, 1)) {
            return OUTSIDE;
        }
        List<String> rows = new ArrayList<>();
        rows.add(now.row());
        for (int n = 1; n <= 60; n++) {
            String next = reading(3, rows.get(n - 1));
            if (rows.contains(next)) {
                return what == 0 ? n : rows.indexOf(next);
            }
            rows.add(next);
        }
        return NONE;
    }

    private static boolean fallsApart(String row, int place) {
        for (int n = 1; n <= 6; n++) {
            if (!reading(0, n, row).equals(reading(0, n, row.substring(0, place)) + reading(0, n, row.substring(place)))) {
                return false;
            }
        }
        return true;
    }

    int apart(int what) {
        if (outside(what, 2)) {
            return OUTSIDE;
        }
        List<Integer> places = new ArrayList<>();
        int start = 0;
        int longest = 0;
        for (int place = 1; place < now.row().length(); place++) {
            if (fallsApart(now.row(), place)) {
                places.add(place);
                longest = Math.max(longest, place - start);
                start = place;
            }
        }
        longest = Math.max(longest, now.row().length() - start);
        int first = places.isEmpty() ? NONE : places.get(0);
        return what == 0 ? places.size() : what == 1 ? first : longest;
    }

    int back(int what) {
        if (outside(what, 1)) {
            return OUTSIDE;
        }
        String row = now.row();
        int times = 0;
        while (times < 60) {
            String was = unreading(row);
            if (row.isEmpty() || was == null || was.length() > 60 || was.equals(row)) {
                break;
            }
            row = was;
            times++;
        }
        return what == 0 ? times : row.length();
    }

    int in(int w) {
        return noWord(w) ? UNKNOWN : now.row().indexOf(words.get(w));
    }

    int changes(int w) {
        if (noWord(w)) {
            return UNKNOWN;
        }
        String a = now.row();
        String b = words.get(w);
        int[][] fewest = new int[a.length() + 1][b.length() + 1];
        for (int i = 0; i <= a.length(); i++) {
            for (int j = 0; j <= b.length(); j++) {
                if (i == 0 || j == 0) {
                    fewest[i][j] = i + j;
                } else {
                    int aslant = fewest[i - 1][j - 1] + (a.charAt(i - 1) == b.charAt(j - 1) ? 0 : 1);
                    fewest[i][j] = Math.min(aslant, 1 + Math.min(fewest[i - 1][j], fewest[i][j - 1]));
                }
            }
        }
        return fewest[a.length()][b.length()];
    }

    int noSlip(int n, int q) {
        if (outside(n, 60) || outside(q, 100)) {
            return OUTSIDE;
        }
        BigInteger odds = BigInteger.valueOf(1000000000);
        for (int i = 0; i < n; i++) {
            odds = odds.multiply(BigInteger.valueOf(q)).divide(BigInteger.valueOf(100));
        }
        return odds.intValue();
    }

    // ---- what is heard

    int hear(int w, int said, boolean is) {
        if (noWord(w) || noWord(said)) {
            return UNKNOWN;
        }
        if (heard.size() == 6) {
            return FULL;
        }
        heard.add(new Said(w, said, is));
        return heard.size();
    }

    private List<Integer> kinds() {
        List<Integer> kinds = new ArrayList<>();
        for (int kind = 0; kind < 6; kind++) {
            int k = kind;
            if (heard.stream().allMatch(h -> reading(k, words.get(h.w())).equals(words.get(h.said())) == h.is())) {
                kinds.add(kind);
            }
        }
        return kinds;
    }

    int couldBe() {
        return kinds().stream().mapToInt(k -> 1 << k).sum();
    }

    int ask() {
        int best = NONE;
        int least = kinds().size();
        for (int w = 0; w < words.size(); w++) {
            Map<String, Integer> parts = new HashMap<>();
            for (int kind : kinds()) {
                parts.merge(reading(kind, words.get(w)), 1, Integer::sum);
            }
            int greatest = parts.values().stream().mapToInt(v -> v).max().orElse(0);
            if (greatest < least) {
                least = greatest;
                best = w;
            }
        }
        return best;
    }

    int write(int place, int figure) {
        if (outside(place, 59) || figure < -1 || figure > 9) {
            return OUTSIDE;
        }
        if (book.size() == 20) {
            return FULL;
        }
        book.add(new Entry(place, figure));
        return book.size();
    }

    int judge() {
        for (int i = 0; i < book.size(); i++) {
            if (figureAt(now.row(), book.get(i).place()) != book.get(i).figure()) {
                return i;
            }
        }
        return NONE;
    }

    int tear() {
        int both = heard.size() + book.size();
        heard.clear();
        book.clear();
        return both;
    }

    // ---- images

    int seed(int v) {
        if (v < 0) {
            return OUTSIDE;
        }
        int was = (int) seed;
        seed = v;
        return was;
    }

    int keep(int i) {
        if (outside(i, 1)) {
            return UNKNOWN;
        }
        images.put(i, new Image(now, seed));
        past.clear();
        return 1;
    }

    int goBack(int i) {
        if (outside(i, 1)) {
            return UNKNOWN;
        }
        if (!images.containsKey(i)) {
            return NOT;
        }
        now = images.get(i).state();
        seed = images.get(i).seed();
        past.clear();
        return 1;
    }
}
