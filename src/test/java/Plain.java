import java.util.ArrayList;
import java.util.LinkedHashMap;
import java.util.List;
import java.util.Map;
import java.util.TreeSet;
import java.util.function.IntPredicate;

/**
 * The document done a second time, as plainly as can be: texts, year by year, nothing remembered.
 * PlainTest holds RhymedThen against it. Public methods bear the names of the document's face.
 */
final class Plain {
    private static final int ALL = 63;

    private String text = "";
    private final List<String> words = new ArrayList<>();
    private final List<String[]> laws = new ArrayList<>();
    private final List<int[]> lawYears = new ArrayList<>();
    private int[] classes = new int[6];
    private int[] lags = new int[6];
    private final List<int[]> signs = new ArrayList<>();
    private final List<Integer> poets = new ArrayList<>();
    private final List<Integer> trusts = new ArrayList<>();
    private final List<Boolean> on = new ArrayList<>();
    private final Object[] kept = new Object[3];
    private List<Long> row = new ArrayList<>();

    // ---- words and laws

    public int sign(int v) {
        if (text.length() + 4 > 40) {
            return -1;
        }
        text += "" + (char) (v >>> 24) + (char) (v >>> 16 & 255) + (char) (v >>> 8 & 255) + (char) (v & 255);
        return text.length();
    }

    public boolean end(int n) {
        if (n < 0 || n > text.length()) {
            return false;
        }
        text = text.substring(0, n);
        return true;
    }

    public int group(int which, int bits) {
        if (which < 0 || which > 5 || bits < 0 || bits > 65535) {
            return -1;
        }
        int was = classes[which];
        classes[which] = bits;
        return was;
    }

    public int word() {
        String t = text;
        text = "";
        if (words.size() == 20) {
            return -100;
        }
        for (int p = 0; p <= t.length(); p++) {
            if (p == 8 && t.length() > 8) {
                return -9;
            }
            if (p < t.length() && (t.charAt(p) < 'a' || t.charAt(p) > 'p')) {
                return -1 - p;
            }
        }
        if (t.isEmpty()) {
            return -1;
        }
        words.add(t);
        return words.size() - 1;
    }

    public int law(int first, int last, int step) {
        String t = text;
        text = "";
        if (laws.size() == 6) {
            return -100;
        }
        if (first < 0 || first > 400 || last < 0 || last > 400 || last < first || step < 1) {
            return -101;
        }
        List<Integer> years = new ArrayList<>();
        for (long y = first; y <= last; y += step) {
            years.add((int) y);
        }
        if (years.size() > 8) {
            return -101;
        }
        if (histories() * years.size() > 600) {
            return -102;
        }
        int longest = longestStart(t);
        if (longest < t.length()) {
            return -1 - longest;
        }
        if (!isLaw(t)) {
            return -1 - t.length();
        }
        String[] arrow = t.split(">", 2);
        String[] slash = arrow[1].split("/", 2);
        String[] sides = slash.length == 2 ? slash[1].split("_", 2) : new String[] {"", ""};
        laws.add(new String[] {arrow[0], slash[0], sides[0], sides[1]});
        lawYears.add(years.stream().mapToInt(y -> y).toArray());
        return laws.size() - 1;
    }

    private static boolean isLaw(String t) {
        return t.matches("[a-pA-F]>[a-p]?(/[a-pA-F#]?_[a-pA-F#]?)?");
    }

    /** How many signs at most of a text can begin some law. */
    private static int longestStart(String t) {
        String[] ends = {"", "a", ">", "a>", "_", "/_"};
        for (int n = t.length(); n > 0; n--) {
            for (String e : ends) {
                if (isLaw(t.substring(0, n) + e)) {
                    return n;
                }
            }
        }
        return 0;
    }

    public int lag(int place, int v) {
        if (place < 0 || place > 5 || v < 0 || v > 200) {
            return -1;
        }
        int was = lags[place];
        lags[place] = v;
        return was;
    }

    public int lags(int kind, int n, int f, int step) {
        if (kind < 0 || kind > 3 || n > 6) {
            return -1;
        }
        if (kind == 3) {
            lags = new int[6];
            return -3;
        }
        if (n < 0) {
            return -2;
        }
        lags = new int[6];
        int sum = 0;
        int entry = f;
        for (int p = 0; p < n; p++) {
            int v = kind == 0 ? (byte) entry : kind == 1 ? (short) entry : entry;
            lags[p] = v < 0 ? 0 : v > 200 ? 200 : v;
            sum += lags[p];
            entry += step;
        }
        return sum;
    }

    /** Whether a sign, told as for mark(), would hold: 1, 0; -1, if there can be none such. */
    int wouldHold(int[] g, int history) {
        if (noSuchSign(g[0], g[1], g[2], g[3], g[4], g[5]) || noHistory(history)) {
            return -1;
        }
        return isSo(g, history, ALL) ? 1 : 0;
    }

    // ---- sounds

    private int histories() {
        int n = 1;
        for (int[] years : lawYears) {
            n *= years.length;
        }
        return n;
    }

    private int yearOf(int law, int history) {
        int rest = history;
        for (int l = laws.size() - 1; l > law; l--) {
            rest /= lawYears.get(l).length;
        }
        return lawYears.get(law)[rest % lawYears.get(law).length];
    }

    private boolean matches(String item, char sound) {
        char c = item.charAt(0);
        return Character.isLowerCase(c) ? c == sound : (classes[c - 'A'] >> sound - 'a' & 1) != 0;
    }

    private boolean sideIs(String item, String w, int at) {
        boolean edge = at < 0 || at >= w.length();
        if (item.isEmpty()) {
            return true;
        }
        if (item.equals("#") || edge) {
            return item.equals("#") && edge;
        }
        return matches(item, w.charAt(at));
    }

    private String worked(String w, int law) {
        String[] l = laws.get(law);
        StringBuilder made = new StringBuilder();
        for (int i = 0; i < w.length(); i++) {
            boolean hit = matches(l[0], w.charAt(i)) && sideIs(l[2], w, i - 1) && sideIs(l[3], w, i + 1);
            made.append(hit ? l[1] : w.substring(i, i + 1));
        }
        return made.toString();
    }

    /** Laws that have come, in the order in which they work. */
    private List<Integer> come(int history, int year, int lag, int among) {
        List<Integer> list = new ArrayList<>();
        for (int l = 0; l < laws.size(); l++) {
            if (yearOf(l, history) + lag <= year && (among >> l & 1) != 0) {
                list.add(l);
            }
        }
        // a stable sort: of equal years by numbers
        list.sort((k, l) -> yearOf(k, history) - yearOf(l, history));
        return list;
    }

    private String through(String w, List<Integer> by) {
        String now = w;
        for (int l : by) {
            now = worked(now, l);
        }
        return now;
    }

    private String sayWith(int word, int history, int year, int lag, int among) {
        return through(words.get(word), come(history, year, lag, among));
    }

    private String say(int word, int history, int year, int place) {
        return sayWith(word, history, year, lags[place], ALL);
    }

    private String tail(String w) {
        for (int i = w.length() - 1; i >= 0; i--) {
            if ((classes[0] >> w.charAt(i) - 'a' & 1) != 0) {
                return w.substring(i);
            }
        }
        return null;
    }

    private boolean rhyme(String v, String w) {
        return tail(v) != null && tail(w) != null && tail(v).equals(tail(w));
    }

    private boolean noWord(int w) {
        return w < 0 || w >= words.size();
    }

    private boolean noHistory(int h) {
        return h < 0 || h >= histories();
    }

    private boolean noYear(int y) {
        return y < 0 || y > 600;
    }

    private boolean noPlace(int p) {
        return p < 0 || p > 5;
    }

    private boolean noLaw(int l) {
        return l < 0 || l >= laws.size();
    }

    private boolean noSign(int s) {
        return s < 0 || s >= signs.size();
    }

    private boolean noWhen(int h, int y, int p) {
        return noHistory(h) || noYear(y) || noPlace(p);
    }

    private void tell(long... numbers) {
        row = new ArrayList<>();
        for (long n : numbers) {
            row.add(n);
        }
    }

    private static long[] fraction(long upper, long lower) {
        long a = upper;
        long b = lower;
        while (b != 0) {
            long r = a % b;
            a = b;
            b = r;
        }
        return new long[] {upper / a, lower / a};
    }

    // ---- how it was said

    public int said(int word, int history, int year, int place) {
        if (noWord(word) || noWhen(history, year, place)) {
            return -1;
        }
        String w = say(word, history, year, place);
        tell(w.chars().mapToLong(c -> c - 'a').toArray());
        return w.length();
    }

    public int changes(int word, int history, int place) {
        if (noWord(word) || noHistory(history) || noPlace(place)) {
            return -1;
        }
        tell();
        String before = words.get(word);
        for (int y = 0; y <= 600; y++) {
            String now = say(word, history, y, place);
            if (!now.equals(before)) {
                row.add((long) y);
            }
            before = now;
        }
        return row.size();
    }

    public int alike(int one, int other, int history, int year, int place) {
        if (noWord(one) || noWord(other) || noWhen(history, year, place)) {
            return -1;
        }
        String v = say(one, history, year, place);
        String w = say(other, history, year, place);
        return v.equals(w) ? 2 : rhyme(v, w) ? 1 : 0;
    }

    public int one(int one, int other, int history, int place) {
        if (noWord(one) || noWord(other) || noHistory(history) || noPlace(place)) {
            return -1;
        }
        tell();
        int spans = 0;
        boolean before = false;
        for (int y = 0; y <= 601; y++) {
            boolean now = y <= 600 && say(one, history, y, place).equals(say(other, history, y, place));
            if (now && !before) {
                spans++;
            }
            if (now != before && spans <= 12) {
                row.add((long) (now ? y : y - 1));
            }
            before = now;
        }
        return spans;
    }

    public int rhymes(int word, int history, int year, int place) {
        if (noWord(word) || noWhen(history, year, place)) {
            return -1;
        }
        tell();
        for (int w = 0; w < words.size(); w++) {
            if (w != word && rhyme(say(w, history, year, place), say(word, history, year, place))) {
                row.add((long) w);
            }
        }
        return row.size();
    }

    public int chance(int history, int year, int place) {
        if (noWhen(history, year, place)) {
            return -1;
        }
        if (words.size() < 2) {
            return -2;
        }
        int pairs = 0;
        int so = 0;
        for (int v = 0; v < words.size(); v++) {
            for (int w = v + 1; w < words.size(); w++) {
                pairs++;
                so += rhyme(say(v, history, year, place), say(w, history, year, place)) ? 1 : 0;
            }
        }
        tell(fraction(so, pairs));
        return 0;
    }

    public int works(int law, int history, int year, int place) {
        if (noLaw(law) || noWhen(history, year, place)) {
            return -1;
        }
        List<Integer> by = come(history, year, lags[place], ALL);
        int bits = 0;
        for (int w = 0; w < words.size() && by.contains(law); w++) {
            String ahead = through(words.get(w), by.subList(0, by.indexOf(law)));
            bits |= worked(ahead, law).equals(ahead) ? 0 : 1 << w;
        }
        return bits;
    }

    // ---- signs

    private boolean noSuchSign(int kind, int one, int other, int year, int place, int number) {
        if (noWord(one) || noYear(year) || noPlace(place)) {
            return true;
        }
        if (kind == 0 || kind == 1 || kind == 4) {
            return noWord(other) || one == other;
        }
        return !(kind == 2 && number >= 0 && number <= 8 || kind == 3 && number >= 0 && number <= 127);
    }

    public int mark(int kind, int one, int other, int year, int place, int number) {
        if (noSuchSign(kind, one, other, year, place, number) || signs.size() == 16) {
            return -1;
        }
        signs.add(new int[] {kind, one, other, year, place, number});
        poets.add(0);
        trusts.add(5);
        on.add(true);
        return signs.size() - 1;
    }

    public boolean by(int sign, int poet, int trust) {
        if (noSign(sign) || poet < 0 || poet > 5 || trust < 1 || trust > 9) {
            return false;
        }
        poets.set(sign, poet);
        trusts.set(sign, trust);
        return true;
    }

    public boolean turn(int sign, boolean v) {
        if (noSign(sign)) {
            return false;
        }
        on.set(sign, v);
        return true;
    }

    private boolean isSo(int kind, String v, String w, int number) {
        switch (kind) {
            case 0: return rhyme(v, w);
            case 1: return v.equals(w);
            case 2: return v.chars().filter(c -> (classes[0] >> c - 'a' & 1) != 0).count() == number;
            case 3: return v.length() > number / 16 && v.charAt(number / 16) - 'a' == number % 16;
            default: return tail(v) != null && tail(w) != null && !tail(v).equals(tail(w));
        }
    }

    private boolean isSo(int[] g, int history, int among) {
        boolean pair = g[0] != 2 && g[0] != 3;
        String v = sayWith(g[1], history, g[3], lags[g[4]], among);
        String w = pair ? sayWith(g[2], history, g[3], lags[g[4]], among) : "";
        return isSo(g[0], v, w, g[5]);
    }

    private boolean isHeld(int sign, int history) {
        return isSo(signs.get(sign), history, ALL);
    }

    public int holds(int sign, int history) {
        return noSign(sign) || noHistory(history) ? -1 : isHeld(sign, history) ? 1 : 0;
    }

    // ---- histories

    private boolean allOn(int history, int among, IntPredicate asked) {
        for (int s = 0; s < signs.size(); s++) {
            if (on.get(s) && asked.test(s) && !isSo(signs.get(s), history, among)) {
                return false;
            }
        }
        return true;
    }

    private List<Integer> fitting() {
        List<Integer> list = new ArrayList<>();
        for (int h = 0; h < histories(); h++) {
            if (allOn(h, ALL, s -> true)) {
                list.add(h);
            }
        }
        return list;
    }

    public int fits() {
        List<Integer> list = fitting();
        tell();
        if (!list.isEmpty()) {
            tell(list.get(0));
        }
        return list.size();
    }

    private static int end(List<Integer> list, int what) {
        TreeSet<Integer> sorted = new TreeSet<>(list);
        return sorted.isEmpty() ? -2 : what == 0 ? sorted.first() : sorted.last();
    }

    public int span(int law, int what) {
        if (noLaw(law) || what < 0 || what > 1) {
            return -1;
        }
        List<Integer> years = new ArrayList<>();
        for (int h : fitting()) {
            years.add(yearOf(law, h));
        }
        return end(years, what);
    }

    public int order(int one, int other) {
        if (noLaw(one) || noLaw(other) || one == other) {
            return -1;
        }
        List<Integer> fit = fitting();
        if (fit.isEmpty()) {
            return -2;
        }
        TreeSet<Integer> seen = new TreeSet<>();
        for (int h : fit) {
            List<Integer> all = come(h, 600, 0, ALL);
            seen.add(all.indexOf(one) < all.indexOf(other) ? 1 : 2);
        }
        return seen.size() == 1 ? seen.first() : 0;
    }

    private int failing(int history) {
        int bits = 0;
        for (int s = 0; s < signs.size(); s++) {
            bits |= on.get(s) && !isHeld(s, history) ? 1 << s : 0;
        }
        return bits;
    }

    public int wrong() {
        int fewest = 99;
        for (int h = 0; h < histories(); h++) {
            int bits = failing(h);
            if (Integer.bitCount(bits) < fewest) {
                fewest = Integer.bitCount(bits);
                tell(h, bits);
            }
        }
        return fewest;
    }

    public int blunder() {
        if (!fitting().isEmpty()) {
            return 0;
        }
        int bits = 0;
        for (int s = 0; s < signs.size(); s++) {
            int left = s;
            for (int h = 0; h < histories(); h++) {
                bits |= on.get(s) && allOn(h, ALL, t -> t != left) ? 1 << s : 0;
            }
        }
        return bits;
    }

    public int sure(int word, int year, int place) {
        if (noWord(word) || noYear(year) || noPlace(place)) {
            return -1;
        }
        TreeSet<String> ways = new TreeSet<>();
        TreeSet<Integer> lengths = new TreeSet<>();
        for (int h : fitting()) {
            ways.add(say(word, h, year, place));
            lengths.add(say(word, h, year, place).length());
        }
        if (ways.isEmpty()) {
            return -2;
        }
        tell(lengths.first(), lengths.last());
        return ways.size();
    }

    public int shows(int law, int history) {
        if (noLaw(law) || noHistory(history)) {
            return -1;
        }
        int bits = 0;
        for (int s = 0; s < signs.size(); s++) {
            boolean shown = on.get(s) && isHeld(s, history) && !isSo(signs.get(s), history, ALL - (1 << law));
            bits |= shown ? 1 << s : 0;
        }
        return bits;
    }

    public int least() {
        for (int size = 0; size <= laws.size(); size++) {
            for (int set = 0; set < 1 << laws.size(); set++) {
                for (int h = 0; h < histories() && Integer.bitCount(set) == size; h++) {
                    if (allOn(h, set, s -> true)) {
                        tell(set, h);
                        return size;
                    }
                }
            }
        }
        return -2;
    }

    // ---- odds

    private long weight(int history, int but) {
        long weight = 1;
        for (int s = 0; s < signs.size(); s++) {
            if (on.get(s) && s != but) {
                weight *= isHeld(s, history) ? trusts.get(s) : 10 - trusts.get(s);
            }
        }
        return weight;
    }

    private int onBut(int but) {
        int many = 0;
        for (int s = 0; s < signs.size(); s++) {
            many += on.get(s) && s != but ? 1 : 0;
        }
        return many;
    }

    public int odds(int sign) {
        if (noSign(sign) || onBut(sign) > 12) {
            return -1;
        }
        long all = 0;
        long so = 0;
        for (int h = 0; h < histories(); h++) {
            all += weight(h, sign);
            so += isHeld(sign, h) ? weight(h, sign) : 0;
        }
        tell(fraction(so, all));
        return 0;
    }

    private Map<String, Long> shares(int word, int year, int place) {
        Map<String, Long> sums = new LinkedHashMap<>();
        for (int h = 0; h < histories(); h++) {
            sums.merge(say(word, h, year, place), weight(h, -1), Long::sum);
        }
        return sums;
    }

    private static String best(Map<String, Long> sums) {
        String best = null;
        for (String w : sums.keySet()) {
            best = best == null || sums.get(w) > sums.get(best) ? w : best;
        }
        return best;
    }

    public int then(int word, int year, int place) {
        if (noWord(word) || noYear(year) || noPlace(place) || onBut(-1) > 12) {
            return -1;
        }
        Map<String, Long> sums = shares(word, year, place);
        String best = best(sums);
        tell(fraction(sums.get(best), sums.values().stream().mapToLong(v -> v).sum()));
        for (int i = 0; i < best.length(); i++) {
            row.add((long) best.charAt(i) - 'a');
        }
        return best.length();
    }

    public int right(int history, int year, int place) {
        if (noWhen(history, year, place) || onBut(-1) > 12) {
            return -1;
        }
        int bits = 0;
        for (int w = 0; w < words.size(); w++) {
            bits |= best(shares(w, year, place)).equals(say(w, history, year, place)) ? 1 << w : 0;
        }
        tell(bits);
        return Integer.bitCount(bits);
    }

    public int likely() {
        if (onBut(-1) > 12) {
            return -1;
        }
        int best = 0;
        long all = 0;
        for (int h = 0; h < histories(); h++) {
            all += weight(h, -1);
            best = weight(h, -1) > weight(best, -1) ? h : best;
        }
        tell(fraction(weight(best, -1), all));
        return best;
    }

    public int next() {
        if (!on.contains(false)) {
            return -1;
        }
        List<Integer> fit = fitting();
        if (fit.isEmpty()) {
            return -2;
        }
        int best = -1;
        double least = 1e9;
        for (int s = 0; s < signs.size(); s++) {
            int asked = s;
            long so = fit.stream().filter(h -> isHeld(asked, h)).count();
            double off = Math.abs(so - fit.size() / 2.0);
            if (!on.get(s) && off < least) {
                best = s;
                least = off;
                tell(so);
            }
        }
        return best;
    }

    // ---- poets, places

    public int eye(int poet, int history) {
        if (poet < 0 || poet > 5 || noHistory(history)) {
            return -1;
        }
        long[] four = new long[4];
        int all = 0;
        for (int s = 0; s < signs.size(); s++) {
            int[] g = signs.get(s);
            if (g[0] == 0 && poets.get(s) == poet) {
                all++;
                four[(isHeld(s, history) ? 0 : 2) + (rhyme(words.get(g[1]), words.get(g[2])) ? 0 : 1)]++;
            }
        }
        tell(four);
        return all;
    }

    public int lean(int poet, int what) {
        if (poet < 0 || poet > 5 || what < 0 || what > 1) {
            return -1;
        }
        List<Integer> found = new ArrayList<>();
        for (int h = 0; h < histories(); h++) {
            if (allOn(h, ALL, s -> signs.get(s)[0] != 0 || poets.get(s) != poet)) {
                int so = 0;
                for (int s = 0; s < signs.size(); s++) {
                    so += signs.get(s)[0] == 0 && poets.get(s) == poet && isHeld(s, h) ? 1 : 0;
                }
                found.add(so);
            }
        }
        return end(found, what);
    }

    public int ahead(int place, int what) {
        if (noPlace(place) || what < 0 || what > 1) {
            return -1;
        }
        int was = lags[place];
        List<Integer> found = new ArrayList<>();
        for (int v = 0; v <= 200; v += 10) {
            lags[place] = v;
            if (!fitting().isEmpty()) {
                found.add(v);
            }
        }
        lags[place] = was;
        return end(found, what);
    }

    // ---- tonight

    public int stage(int history, int place, int one, int two, int three) {
        if (noHistory(history) || noPlace(place) || noYear(one) || noYear(two) || noYear(three)) {
            return -1;
        }
        int[] years = {one, two, three};
        TreeSet<Integer> cast = new TreeSet<>();
        for (int s = 0; s < signs.size(); s++) {
            for (int i = 1; i <= 2 && on.get(s) && signs.get(s)[0] < 2; i++) {
                cast.add(signs.get(s)[i]);
            }
        }
        while (cast.size() > 7) {
            cast.pollLast();
        }
        List<Integer> seats = new ArrayList<>(cast);
        int rows = (int) Math.pow(3, seats.size());
        int most = -1;
        for (int r = 0; r < rows; r++) {
            Map<Integer, Integer> chosen = new LinkedHashMap<>();
            int rest = r;
            int unit = rows;
            for (int w : seats) {
                unit /= 3;
                chosen.put(w, rest / unit);
                rest %= unit;
            }
            int so = 0;
            for (int s = 0; s < signs.size(); s++) {
                int[] g = signs.get(s);
                if (on.get(s) && g[0] < 2 && chosen.containsKey(g[1]) && chosen.containsKey(g[2])) {
                    String v = say(g[1], history, years[chosen.get(g[1])], place);
                    String w = say(g[2], history, years[chosen.get(g[2])], place);
                    so += isSo(g[0], v, w, 0) ? 1 : 0;
                }
            }
            if (so > most) {
                most = so;
                tell();
                chosen.forEach((w, c) -> {
                    row.add((long) w);
                    row.add((long) c);
                });
            }
        }
        return most;
    }

    // ---- signs that are sought

    public int might(int kind, int one, int other, int year, int place, int number) {
        if (noSuchSign(kind, one, other, year, place, number)) {
            return -1;
        }
        int[] g = {kind, one, other, year, place, number};
        List<Integer> fit = fitting();
        long so = fit.stream().filter(h -> isSo(g, h, ALL)).count();
        tell(so, fit.size() - so);
        return fit.size();
    }

    public int look(int year, int place) {
        if (noYear(year) || noPlace(place) || words.size() < 2) {
            return -1;
        }
        List<Integer> fit = fitting();
        if (fit.isEmpty()) {
            return -2;
        }
        double least = 1e9;
        int answer = 0;
        for (int v = 0; v < words.size(); v++) {
            for (int w = v + 1; w < words.size(); w++) {
                int[] g = {0, v, w, year, place, 0};
                long so = fit.stream().filter(h -> isSo(g, h, ALL)).count();
                double off = Math.abs(so - fit.size() / 2.0);
                if (off < least) {
                    least = off;
                    answer = (int) so;
                    tell(v, w);
                }
            }
        }
        return answer;
    }

    public int settled(int word, int place) {
        if (noWord(word) || noPlace(place)) {
            return -1;
        }
        List<Integer> fit = fitting();
        int answer = -2;
        for (int y = 600; y >= 0 && !fit.isEmpty(); y -= 10) {
            TreeSet<String> ways = new TreeSet<>();
            for (int h : fit) {
                ways.add(say(word, h, y, place));
            }
            if (ways.size() > 1) {
                return answer;
            }
            answer = y;
        }
        return answer;
    }

    // ---- a land

    public int fell(int history, int year, int place) {
        if (noWhen(history, year, place)) {
            return -1;
        }
        int best = 0;
        for (int v = 0; v < words.size(); v++) {
            int bits = 0;
            for (int w = 0; w < words.size(); w++) {
                bits |= say(v, history, year, place).equals(say(w, history, year, place)) ? 1 << w : 0;
            }
            best = Integer.bitCount(bits) > Integer.bitCount(best) ? bits : best;
        }
        if (!words.isEmpty()) {
            tell(best);
        }
        return Integer.bitCount(best);
    }

    public int town(int word, int history, int year, int place) {
        if (noWord(word) || noWhen(history, year, place)) {
            return -1;
        }
        String told = say(word, history, year, place);
        int last = -1;
        int lastPlace = -1;
        for (int p = 0; p < 6; p++) {
            int y = 0;
            while (y <= 600 && !say(word, history, y, p).equals(told)) {
                y++;
            }
            if (y > 600) {
                return -2;
            }
            if (y > last) {
                last = y;
                lastPlace = p;
            }
        }
        tell(lastPlace);
        return last;
    }

    public int swap(int one, int other, int history, int year, int place) {
        if (noLaw(one) || noLaw(other) || one == other || noWhen(history, year, place)) {
            return -1;
        }
        List<Integer> by = come(history, year, lags[place], ALL);
        if (!by.contains(one) || !by.contains(other)) {
            return -1;
        }
        List<Integer> swapped = new ArrayList<>(by);
        swapped.set(by.indexOf(one), other);
        swapped.set(by.indexOf(other), one);
        int bits = 0;
        for (int w = 0; w < words.size(); w++) {
            bits |= through(words.get(w), by).equals(through(words.get(w), swapped)) ? 0 : 1 << w;
        }
        return bits;
    }

    // ---- kept

    public boolean keep(int i) {
        if (i < 0 || i > 2) {
            return false;
        }
        kept[i] = new Object[] {new ArrayList<>(on), new ArrayList<>(poets), new ArrayList<>(trusts),
            lags.clone(), classes.clone()};
        return true;
    }

    public boolean again(int i) {
        if (i < 0 || i > 2 || kept[i] == null) {
            return false;
        }
        Object[] k = (Object[]) kept[i];
        for (int s = 0; s < ((List<?>) k[0]).size(); s++) {
            on.set(s, (Boolean) ((List<?>) k[0]).get(s));
            poets.set(s, (Integer) ((List<?>) k[1]).get(s));
            trusts.set(s, (Integer) ((List<?>) k[2]).get(s));
        }
        lags = ((int[]) k[3]).clone();
        classes = ((int[]) k[4]).clone();
        return true;
    }

    public int count(int what) {
        int bits = 0;
        for (int s = 0; s < signs.size(); s++) {
            bits |= on.get(s) ? 1 << s : 0;
        }
        int[] all = {words.size(), laws.size(), histories(), signs.size(), bits, row.size(), text.length()};
        return what < 0 || what > 6 ? -1 : all[what];
    }

    public int year(int law, int history) {
        return noLaw(law) || noHistory(history) ? -1 : yearOf(law, history);
    }

    public List<Long> rowNow() {
        return row;
    }
}
