import java.util.Arrays;
import java.util.NoSuchElementException;

/** How it rhymed then: words, laws of sound, and signs of how it was said. */
public final class RhymedThen {
    public static final int NONE = -1;

    private static final int NO_ANSWER = -2;
    private static final int MISSING_SHEET = -3;
    private static final int FULL = -100;
    private static final int BAD_YEARS = -101;
    private static final int TOO_MANY_HISTORIES = -102;

    private static final int MOST_WORDS = 20;
    private static final int MOST_SOUNDS = 8;
    private static final int MOST_LAWS = 6;
    private static final int MOST_LAW_YEARS = 8;
    private static final int LAST_LAW_YEAR = 400;
    private static final int MOST_HISTORIES = 600;
    private static final int LAST_YEAR = 600;
    private static final int PLACES = 6;
    private static final int LAST_LAG = 200;
    private static final int CLASSES = 6;
    private static final int ALL_SOUNDS = 0xFFFF;
    private static final int MOST_SIGNS = 16;
    private static final int POETS = 6;
    private static final int MOST_TRUST = 9;
    private static final int MOST_WEIGHED = 12;
    private static final int SHELVES = 3;
    private static final int TEN_YEARS = 10;

    private final Text text = new Text();
    private final Row row = new Row();
    private final Tongue tongue = new Tongue();
    private final Past past = new Past(tongue);
    private final Signs signs = new Signs(tongue, past);
    private final Sign sought = new Sign();
    private final Ways ways = new Ways();
    private final Stage stage = new Stage();
    private final Kept[] shelves = new Kept[SHELVES];
    private final int[] courses = new int[MOST_HISTORIES];
    private final long[] weights = new long[MOST_HISTORIES];
    private final long[] tails = new long[MOST_WORDS];
    private final int[] pairs = new int[MOST_WORDS * MOST_WORDS];

    public RhymedThen() {
        for (int i = 0; i < SHELVES; i++) {
            shelves[i] = new Kept();
        }
    }

    // ---- words and laws

    public int sign(int v) {
        return text.takes(v) ? text.size : NONE;
    }

    public boolean end(int n) {
        return text.cutTo(n);
    }

    public int group(int which, int bits) {
        if (!isBelow(which, CLASSES) || bits < 0 || bits > ALL_SOUNDS) {
            return NONE;
        }
        int was = tongue.classes[which];
        tongue.setClass(which, bits);
        signs.doubtAll();
        return was;
    }

    public int word() {
        int answer = tongue.words >= MOST_WORDS ? FULL : wordFromText();
        text.cutTo(0);
        return answer;
    }

    private int wordFromText() {
        int wrongAt = text.firstNoWord();
        return wrongAt == Text.FINE ? tongue.addWord(text.asForm()) : -1 - wrongAt;
    }

    public int law(int first, int last, int step) {
        int answer = lawFromText(first, last, step);
        text.cutTo(0);
        return answer;
    }

    private int lawFromText(int first, int last, int step) {
        if (tongue.lawCount >= MOST_LAWS) {
            return FULL;
        }
        int many = yearsOfLaw(first, last, step);
        if (many < 1 || many > MOST_LAW_YEARS) {
            return BAD_YEARS;
        }
        if (past.histories * many > MOST_HISTORIES) {
            return TOO_MANY_HISTORIES;
        }
        int wrongAt = tongue.laws[tongue.lawCount].read(text);
        if (wrongAt != Text.FINE) {
            return -1 - wrongAt;
        }
        int number = tongue.addLaw();
        past.addLaw(first, step, many);
        signs.doubtAll();
        return number;
    }

    /** How many years from first to last by step; 0, if a law can't have them. */
    private static int yearsOfLaw(int first, int last, int step) {
        if (first < 0 || last > LAST_LAW_YEAR || last < first || step < 1) {
            return 0;
        }
        return (last - first) / step + 1;
    }

    public int lag(int place, int v) {
        if (!isPlace(place) || v < 0 || v > LAST_LAG) {
            return NONE;
        }
        int was = past.lags[place];
        past.lags[place] = v;
        signs.doubtPlace(place);
        return was;
    }

    public int lags(int kind, int n, int f, int step) {
        if (!isBelow(kind, 4) || n > PLACES) {
            return NONE;
        }
        boolean missing = kind == 3;
        if (!missing && n < 0) {
            return NO_ANSWER;
        }
        int told = missing ? 0 : n;
        int sum = 0;
        for (int place = 0; place < PLACES; place++) {
            int v = place < told ? lagOnSheet(kind, f + place * step) : 0;
            past.lags[place] = v;
            sum += v;
        }
        signs.doubtAll();
        return missing ? MISSING_SHEET : sum;
    }

    private static int lagOnSheet(int kind, int entry) {
        int v = kind == 0 ? (byte) entry : kind == 1 ? (short) entry : entry;
        return Math.max(0, Math.min(LAST_LAG, v));
    }

    // ---- how it was said

    public int said(int word, int history, int year, int place) {
        if (!isWord(word) || !isThenAndThere(history, year, place)) {
            return NONE;
        }
        row.clear();
        return tellSounds(tongue.formOn(past.courseAt(history, year, place), word));
    }

    private int tellSounds(long form) {
        int length = Form.lengthOf(form);
        for (int i = 0; i < length; i++) {
            row.add(Form.soundAt(form, i));
        }
        return length;
    }

    public int changes(int word, int history, int place) {
        if (!isWord(word) || !isHistory(history) || !isPlace(place)) {
            return NONE;
        }
        row.clear();
        long form = tongue.formOn(Tongue.SPELT, word);
        for (int turn = 0; turn <= tongue.lawCount; turn++) {
            int year = past.newsYear(history, turn, place);
            long now = tongue.formOn(past.courseAt(history, year, place), word);
            if (now != form) {
                row.add(year);
                form = now;
            }
        }
        return row.size;
    }

    public int alike(int one, int other, int history, int year, int place) {
        if (!isWord(one) || !isWord(other) || !isThenAndThere(history, year, place)) {
            return NONE;
        }
        int course = past.courseAt(history, year, place);
        if (tongue.formOn(course, one) == tongue.formOn(course, other)) {
            return 2;
        }
        return tongue.rhymeOn(course, one, other) ? 1 : 0;
    }

    public int one(int one, int other, int history, int place) {
        if (!isWord(one) || !isWord(other) || !isHistory(history) || !isPlace(place)) {
            return NONE;
        }
        row.clear();
        int spans = 0;
        int since = NONE;
        for (int turn = 0; turn <= tongue.lawCount; turn++) {
            int year = past.newsYear(history, turn, place);
            int course = past.courseAt(history, year, place);
            boolean same = tongue.formOn(course, one) == tongue.formOn(course, other);
            if (same && since == NONE) {
                since = year;
                spans++;
            } else if (!same && since != NONE) {
                tellSpan(since, year - 1);
                since = NONE;
            }
        }
        if (since != NONE) {
            tellSpan(since, LAST_YEAR);
        }
        return spans;
    }

    private void tellSpan(int first, int last) {
        row.add(first);
        row.add(last);
    }

    public int rhymes(int word, int history, int year, int place) {
        if (!isWord(word) || !isThenAndThere(history, year, place)) {
            return NONE;
        }
        int course = past.courseAt(history, year, place);
        row.clear();
        for (int w = 0; w < tongue.words; w++) {
            if (w != word && tongue.rhymeOn(course, word, w)) {
                row.add(w);
            }
        }
        return row.size;
    }

    public int chance(int history, int year, int place) {
        if (!isThenAndThere(history, year, place)) {
            return NONE;
        }
        int n = tongue.words;
        if (n < 2) {
            return NO_ANSWER;
        }
        int course = past.courseAt(history, year, place);
        int rhyming = 0;
        for (int w = 0; w < n; w++) {
            for (int v = w + 1; v < n; v++) {
                rhyming += tongue.rhymeOn(course, w, v) ? 1 : 0;
            }
        }
        row.clear();
        row.addFraction(rhyming, n * (n - 1) / 2);
        return 0;
    }

    public int works(int law, int history, int year, int place) {
        if (!isLaw(law) || !isThenAndThere(history, year, place)) {
            return NONE;
        }
        if (!past.hasCome(law, history, year, place)) {
            return 0;
        }
        int before = past.courseUpTo(history, law);
        return tongue.differing(before, tongue.courseAfter(before, law));
    }

    // ---- signs

    public int mark(int kind, int one, int other, int year, int place, int number) {
        if (signs.told >= MOST_SIGNS || !mayBeSign(kind, one, other, number) || !isYear(year) || !isPlace(place)) {
            return NONE;
        }
        Sign sign = signs.all[signs.told];
        sign.tell(kind, one, other, number);
        sign.put(year, place);
        return signs.addTold();
    }

    private boolean mayBeSign(int kind, int one, int other, int number) {
        if (!isWord(one)) {
            return false;
        }
        switch (kind) {
            case Sign.RHYME:
            case Sign.PUN:
            case Sign.APART:
                return isWord(other) && one != other;
            case Sign.BEATS:
                return number >= 0 && number <= MOST_SOUNDS;
            case Sign.BOOK:
                return isBelow(number, MOST_SOUNDS * 16);
            default:
                return false;
        }
    }

    public boolean by(int sign, int poet, int trust) {
        if (!isSign(sign) || !isBelow(poet, POETS) || trust < 1 || trust > MOST_TRUST) {
            return false;
        }
        signs.all[sign].poet = poet;
        signs.all[sign].trust = trust;
        return true;
    }

    public boolean turn(int sign, boolean on) {
        if (!isSign(sign)) {
            return false;
        }
        signs.on = on ? signs.on | 1 << sign : signs.on & ~(1 << sign);
        return true;
    }

    public int holds(int sign, int history) {
        if (!isSign(sign) || !isHistory(history)) {
            return NONE;
        }
        signs.lookAnew();
        return signs.heldBy(history) >> sign & 1;
    }

    // ---- histories

    public int fits() {
        signs.lookAnew();
        int fitting = 0;
        row.clear();
        for (int h = 0; h < past.histories; h++) {
            if (signs.fitsTo(h)) {
                if (fitting == 0) {
                    row.add(h);
                }
                fitting++;
            }
        }
        return fitting;
    }

    public int span(int law, int what) {
        if (!isLaw(law) || !isBelow(what, 2)) {
            return NONE;
        }
        signs.lookAnew();
        int found = NO_ANSWER;
        for (int h = 0; h < past.histories; h++) {
            if (signs.fitsTo(h)) {
                found = further(found, past.yearOf(h, law), what);
            }
        }
        return found;
    }

    /** The lesser of two (what 0), or the greater (1), where at first nothing is found. */
    private static int further(int found, int v, int what) {
        if (found == NO_ANSWER) {
            return v;
        }
        return what == 0 ? Math.min(found, v) : Math.max(found, v);
    }

    public int order(int one, int other) {
        if (!isLaw(one) || !isLaw(other) || one == other) {
            return NONE;
        }
        signs.lookAnew();
        int fitting = 0;
        int ahead = 0;
        for (int h = 0; h < past.histories; h++) {
            if (signs.fitsTo(h)) {
                fitting++;
                ahead += past.turnOf(h, one) < past.turnOf(h, other) ? 1 : 0;
            }
        }
        if (fitting == 0) {
            return NO_ANSWER;
        }
        return ahead == fitting ? 1 : ahead == 0 ? 2 : 0;
    }

    public int wrong() {
        signs.lookAnew();
        int found = 0;
        for (int h = 1; h < past.histories; h++) {
            if (Integer.bitCount(signs.failingBy(h)) < Integer.bitCount(signs.failingBy(found))) {
                found = h;
            }
        }
        int failing = signs.failingBy(found);
        row.clear();
        row.add(found);
        row.add(failing);
        return Integer.bitCount(failing);
    }

    public int blunder() {
        signs.lookAnew();
        int alone = 0;
        for (int h = 0; h < past.histories; h++) {
            int failing = signs.failingBy(h);
            if (failing == 0) {
                return 0;
            }
            if (Integer.bitCount(failing) == 1) {
                alone |= failing;
            }
        }
        return alone;
    }

    public int sure(int word, int year, int place) {
        if (!isWord(word) || !isYear(year) || !isPlace(place)) {
            return NONE;
        }
        signs.lookAnew();
        ways.clear();
        for (int h = 0; h < past.histories; h++) {
            if (signs.fitsTo(h)) {
                ways.add(tongue.formOn(past.courseAt(h, year, place), word), 1);
            }
        }
        if (ways.size == 0) {
            return NO_ANSWER;
        }
        row.clear();
        row.add(ways.shortest());
        row.add(ways.longest());
        return ways.size;
    }

    public int shows(int law, int history) {
        if (!isLaw(law) || !isHistory(history)) {
            return NONE;
        }
        signs.lookAnew();
        int held = signs.on & signs.heldBy(history);
        int others = Past.ALL_LAWS & ~(1 << law);
        int shown = 0;
        for (int s = 0; s < signs.told; s++) {
            int bit = held & 1 << s;
            if (bit != 0 && !signs.allAreSoAmong(bit, history, others)) {
                shown |= bit;
            }
        }
        return shown;
    }

    public int least() {
        int sets = 1 << tongue.lawCount;
        for (int size = 0; size <= tongue.lawCount; size++) {
            for (int set = 0; set < sets; set++) {
                int history = Integer.bitCount(set) == size ? firstFittingAmong(set) : NONE;
                if (history != NONE) {
                    row.clear();
                    row.add(set);
                    row.add(history);
                    return size;
                }
            }
        }
        return NO_ANSWER;
    }

    private int firstFittingAmong(int laws) {
        for (int h = 0; h < past.histories; h++) {
            // histories that differ in laws which never come are alike: the first has their first years
            if (past.isFirstBut(h, laws) && signs.allAreSoAmong(signs.on, h, laws)) {
                return h;
            }
        }
        return NONE;
    }

    // ---- odds

    public int odds(int sign) {
        if (!isSign(sign)) {
            return NONE;
        }
        int others = signs.on & ~(1 << sign);
        if (Integer.bitCount(others) > MOST_WEIGHED) {
            return NONE;
        }
        signs.lookAnew();
        long all = weighAll(others);
        long holding = 0;
        for (int h = 0; h < past.histories; h++) {
            if ((signs.heldBy(h) >> sign & 1) != 0) {
                holding += weights[h];
            }
        }
        row.clear();
        row.addFraction(holding, all);
        return 0;
    }

    /** Weighs each history by some signs; the sum of all. */
    private long weighAll(int by) {
        long all = 0;
        for (int h = 0; h < past.histories; h++) {
            weights[h] = signs.weightOf(h, by);
            all += weights[h];
        }
        return all;
    }

    public int then(int word, int year, int place) {
        if (!isWord(word) || !isYear(year) || !isPlace(place) || tooManyToWeigh()) {
            return NONE;
        }
        signs.lookAnew();
        long all = weighAll(signs.on);
        walkAll(year, place);
        int best = likeliestWay(word);
        row.clear();
        row.addFraction(ways.sums[best], all);
        return tellSounds(ways.forms[best]);
    }

    private boolean tooManyToWeigh() {
        return Integer.bitCount(signs.on) > MOST_WEIGHED;
    }

    private void walkAll(int year, int place) {
        for (int h = 0; h < past.histories; h++) {
            courses[h] = past.courseAt(h, year, place);
        }
    }

    private int likeliestWay(int word) {
        ways.clear();
        for (int h = 0; h < past.histories; h++) {
            ways.add(tongue.formOn(courses[h], word), weights[h]);
        }
        return ways.heaviest();
    }

    public int right(int history, int year, int place) {
        if (!isThenAndThere(history, year, place) || tooManyToWeigh()) {
            return NONE;
        }
        signs.lookAnew();
        weighAll(signs.on);
        walkAll(year, place);
        int asThen = 0;
        for (int w = 0; w < tongue.words; w++) {
            if (ways.forms[likeliestWay(w)] == tongue.formOn(courses[history], w)) {
                asThen |= 1 << w;
            }
        }
        row.clear();
        row.add(asThen);
        return Integer.bitCount(asThen);
    }

    public int likely() {
        if (tooManyToWeigh()) {
            return NONE;
        }
        signs.lookAnew();
        long all = weighAll(signs.on);
        int best = 0;
        for (int h = 1; h < past.histories; h++) {
            if (weights[h] > weights[best]) {
                best = h;
            }
        }
        row.clear();
        row.addFraction(weights[best], all);
        return best;
    }

    public int next() {
        if (signs.on == (1 << signs.told) - 1) {
            return NONE;
        }
        signs.lookAnew();
        int fitting = signs.fitCount();
        if (fitting == 0) {
            return NO_ANSWER;
        }
        int best = NONE;
        int bestHeld = 0;
        for (int s = 0; s < signs.told; s++) {
            if ((signs.on >> s & 1) == 0) {
                int held = signs.fitCountHolding(s);
                if (best == NONE || isMoreEven(held, bestHeld, fitting)) {
                    best = s;
                    bestHeld = held;
                }
            }
        }
        row.clear();
        row.add(bestHeld);
        return best;
    }

    private static boolean isMoreEven(int part, int than, int whole) {
        return Math.abs(2 * part - whole) < Math.abs(2 * than - whole);
    }

    // ---- poets, places

    public int eye(int poet, int history) {
        if (!isBelow(poet, POETS) || !isHistory(history)) {
            return NONE;
        }
        signs.lookAnew();
        int both = 0;
        int ear = 0;
        int eye = 0;
        int all = 0;
        int rhymes = signs.rhymesOf(poet);
        for (int s = 0; s < signs.told; s++) {
            if ((rhymes >> s & 1) != 0) {
                boolean heard = (signs.heldBy(history) >> s & 1) != 0;
                boolean seen = tongue.rhymeOn(Tongue.SPELT, signs.all[s].one, signs.all[s].other);
                all++;
                both += heard && seen ? 1 : 0;
                ear += heard && !seen ? 1 : 0;
                eye += !heard && seen ? 1 : 0;
            }
        }
        row.clear();
        row.add(both);
        row.add(ear);
        row.add(eye);
        row.add(all - both - ear - eye);
        return all;
    }

    public int lean(int poet, int what) {
        if (!isBelow(poet, POETS) || !isBelow(what, 2)) {
            return NONE;
        }
        signs.lookAnew();
        int rhymes = signs.rhymesOf(poet);
        int found = NO_ANSWER;
        for (int h = 0; h < past.histories; h++) {
            if ((signs.failingBy(h) & ~rhymes) == 0) {
                found = further(found, Integer.bitCount(signs.heldBy(h) & rhymes), what);
            }
        }
        return found;
    }

    public int ahead(int place, int what) {
        if (!isPlace(place) || !isBelow(what, 2)) {
            return NONE;
        }
        signs.lookAnew();
        for (int v = 0; v <= LAST_LAG; v += TEN_YEARS) {
            int lag = what == 0 ? v : LAST_LAG - v;
            if (signs.someFitsWithLag(place, lag)) {
                return lag;
            }
        }
        return NO_ANSWER;
    }

    // ---- tonight

    public int stage(int history, int place, int one, int two, int three) {
        if (!isThenAndThere(history, one, place) || !isYear(two) || !isYear(three)) {
            return NONE;
        }
        stage.clear();
        for (int s = 0; s < signs.told; s++) {
            if (signs.isStaged(s)) {
                stage.invite(signs.all[s].one);
                stage.invite(signs.all[s].other);
            }
        }
        stage.seat();
        stage.courses[0] = past.courseAt(history, one, place);
        stage.courses[1] = past.courseAt(history, two, place);
        stage.courses[2] = past.courseAt(history, three, place);
        for (int s = 0; s < signs.told; s++) {
            if (signs.isStaged(s)) {
                stage.addPair(signs.all[s], tongue);
            }
        }
        int most = stage.play();
        row.clear();
        for (int i = 0; i < stage.cast; i++) {
            row.add(stage.words[i]);
            row.add(stage.best[i]);
        }
        return most;
    }

    // ---- signs that are sought

    public int might(int kind, int one, int other, int year, int place, int number) {
        if (!mayBeSign(kind, one, other, number) || !isYear(year) || !isPlace(place)) {
            return NONE;
        }
        signs.lookAnew();
        sought.tell(kind, one, other, number);
        int fitting = 0;
        int holding = 0;
        for (int h = 0; h < past.histories; h++) {
            if (signs.fitsTo(h)) {
                fitting++;
                holding += sought.isSoOn(past.courseAt(h, year, place), tongue) ? 1 : 0;
            }
        }
        row.clear();
        row.add(holding);
        row.add(fitting - holding);
        return fitting;
    }

    public int look(int year, int place) {
        if (!isYear(year) || !isPlace(place) || tongue.words < 2) {
            return NONE;
        }
        signs.lookAnew();
        int fitting = countPairs(year, place);
        if (fitting == 0) {
            return NO_ANSWER;
        }
        int best = 1;
        for (int w = 0; w < tongue.words; w++) {
            for (int v = w + 1; v < tongue.words; v++) {
                int pair = w * MOST_WORDS + v;
                best = isMoreEven(pairs[pair], pairs[best], fitting) ? pair : best;
            }
        }
        row.clear();
        row.add(best / MOST_WORDS);
        row.add(best % MOST_WORDS);
        return pairs[best];
    }

    /** Of each two words by how many of the histories that fit they rhyme; how many fit. */
    private int countPairs(int year, int place) {
        Arrays.fill(pairs, 0);
        int fitting = 0;
        for (int h = 0; h < past.histories; h++) {
            if (signs.fitsTo(h)) {
                fitting++;
                countPairsOn(past.courseAt(h, year, place));
            }
        }
        return fitting;
    }

    private void countPairsOn(int course) {
        for (int w = 0; w < tongue.words; w++) {
            tails[w] = tongue.tailOn(course, w);
        }
        for (int w = 0; w < tongue.words; w++) {
            for (int v = w + 1; v < tongue.words && tails[w] != Form.ABSENT; v++) {
                if (tails[w] == tails[v]) {
                    pairs[w * MOST_WORDS + v]++;
                }
            }
        }
    }

    public int settled(int word, int place) {
        if (!isWord(word) || !isPlace(place)) {
            return NONE;
        }
        signs.lookAnew();
        if (signs.fitCount() == 0) {
            return NO_ANSWER;
        }
        int found = NO_ANSWER;
        for (int year = LAST_YEAR; year >= 0 && isOneWay(word, year, place); year -= TEN_YEARS) {
            found = year;
        }
        return found;
    }

    /** Whether all histories that fit say a word alike. */
    private boolean isOneWay(int word, int year, int place) {
        long way = Form.ABSENT;
        for (int h = 0; h < past.histories; h++) {
            if (signs.fitsTo(h)) {
                long form = tongue.formOn(past.courseAt(h, year, place), word);
                if (way != Form.ABSENT && form != way) {
                    return false;
                }
                way = form;
            }
        }
        return true;
    }

    // ---- a land

    public int fell(int history, int year, int place) {
        if (!isThenAndThere(history, year, place)) {
            return NONE;
        }
        if (tongue.words == 0) {
            return 0;
        }
        int course = past.courseAt(history, year, place);
        int most = 0;
        for (int w = 0; w < tongue.words; w++) {
            int set = tongue.saidLike(course, w);
            most = Integer.bitCount(set) > Integer.bitCount(most) ? set : most;
        }
        row.clear();
        row.add(most);
        return Integer.bitCount(most);
    }

    public int town(int word, int history, int year, int place) {
        if (!isWord(word) || !isThenAndThere(history, year, place)) {
            return NONE;
        }
        long form = tongue.formOn(past.courseAt(history, year, place), word);
        int last = NONE;
        int lastPlace = 0;
        for (int p = 0; p < PLACES; p++) {
            int first = firstSaidSo(word, form, history, p);
            if (first == NONE) {
                return NO_ANSWER;
            }
            if (first > last) {
                last = first;
                lastPlace = p;
            }
        }
        row.clear();
        row.add(lastPlace);
        return last;
    }

    private int firstSaidSo(int word, long form, int history, int place) {
        for (int turn = 0; turn <= tongue.lawCount; turn++) {
            int year = past.newsYear(history, turn, place);
            if (tongue.formOn(past.courseAt(history, year, place), word) == form) {
                return year;
            }
        }
        return NONE;
    }

    public int swap(int one, int other, int history, int year, int place) {
        if (!isLaw(one) || !isLaw(other) || one == other || !isThenAndThere(history, year, place)) {
            return NONE;
        }
        if (!past.hasCome(one, history, year, place) || !past.hasCome(other, history, year, place)) {
            return NONE;
        }
        int swapped = past.courseSwapped(history, year - past.lags[place], one, other);
        return tongue.differing(past.courseAt(history, year, place), swapped);
    }

    // ---- kept

    public boolean keep(int i) {
        if (!isBelow(i, SHELVES)) {
            return false;
        }
        shelves[i].take(signs, past.lags, tongue.classes);
        return true;
    }

    public boolean again(int i) {
        if (!isBelow(i, SHELVES) || !shelves[i].used) {
            return false;
        }
        shelves[i].giveBack(signs, past.lags);
        for (int c = 0; c < CLASSES; c++) {
            tongue.setClass(c, shelves[i].classes[c]);
        }
        signs.doubtAll();
        return true;
    }

    public int count(int what) {
        switch (what) {
            case 0: return tongue.words;
            case 1: return tongue.lawCount;
            case 2: return past.histories;
            case 3: return signs.told;
            case 4: return signs.on;
            case 5: return row.size;
            case 6: return text.size;
            default: return NONE;
        }
    }

    public int year(int law, int history) {
        if (!isLaw(law) || !isHistory(history)) {
            return NONE;
        }
        return past.yearOf(history, law);
    }

    public long row(int i) throws NoSuchElementException {
        if (!isBelow(i, row.size)) {
            throw new NoSuchElementException();
        }
        return row.numbers[i];
    }

    // ---- what there is

    private static boolean isBelow(int v, int bound) {
        return v >= 0 && v < bound;
    }

    private static boolean isYear(int year) {
        return year >= 0 && year <= LAST_YEAR;
    }

    private static boolean isPlace(int place) {
        return isBelow(place, PLACES);
    }

    private boolean isWord(int word) {
        return isBelow(word, tongue.words);
    }

    private boolean isLaw(int law) {
        return isBelow(law, tongue.lawCount);
    }

    private boolean isHistory(int history) {
        return isBelow(history, past.histories);
    }

    private boolean isSign(int sign) {
        return isBelow(sign, signs.told);
    }

    private boolean isThenAndThere(int history, int year, int place) {
        return isHistory(history) && isYear(year) && isPlace(place);
    }

    /** THE TEXT, sign by sign. */
    private static final class Text {
        static final int FINE = -1;
        static final int OVER = -1;
        private static final int MOST = 40;

        final int[] signs = new int[MOST];
        int size = 0;

        /** Puts four signs behind, or refuses all. */
        boolean takes(int v) {
            if (size + 4 > MOST) {
                return false;
            }
            for (int shift = 24; shift >= 0; shift -= 8) {
                signs[size] = v >> shift & 255;
                size++;
            }
            return true;
        }

        boolean cutTo(int n) {
            if (n < 0 || n > size) {
                return false;
            }
            size = n;
            return true;
        }

        int signAt(int i) {
            return i < size ? signs[i] : OVER;
        }

        /** Where it can't be a word; FINE, if it is one. */
        int firstNoWord() {
            for (int i = 0; i < size; i++) {
                if (i == MOST_SOUNDS || !isSound(signs[i])) {
                    return i;
                }
            }
            return size == 0 ? 0 : FINE;
        }

        long asForm() {
            int length = Math.min(size, MOST_SOUNDS);
            long sounds = 0;
            for (int i = 0; i < length; i++) {
                sounds |= (long) (signs[i] - 'a') << 4 * i;
            }
            return Form.of(sounds, length);
        }

        static boolean isSound(int sign) {
            return sign >= 'a' && sign <= 'p';
        }

        static boolean isSoundOrClass(int sign) {
            return isSound(sign) || sign >= 'A' && sign <= 'F';
        }
    }

    /** The ROW: numbers told last. */
    private static final class Row {
        private static final int MOST = 24;
        private static final int MOST_DIVISIONS = 200;

        final long[] numbers = new long[MOST];
        int size = 0;

        void clear() {
            size = 0;
        }

        void add(long number) {
            if (size < MOST) {
                numbers[size] = number;
                size++;
            }
        }

        /** A fraction in lowest terms; its lower number is above 0. */
        void addFraction(long upper, long lower) {
            long shared = sharedDivisor(upper, lower);
            if (shared > 0) {
                add(upper / shared);
                add(lower / shared);
            }
        }

        private static long sharedDivisor(long one, long other) {
            long a = one;
            long b = other;
            for (int i = 0; i < MOST_DIVISIONS && b != 0; i++) {
                long rest = a % b;
                a = b;
                b = rest;
            }
            return a;
        }
    }

    /**
     * Sounds in a row as one number: four bits a sound, the first lowest, and above them
     * how many there are and one more, so that 0 is no form at all, and equal forms are equal numbers.
     */
    private static final class Form {
        static final long ABSENT = 0L;
        private static final long SOUND_BITS = 0xFFFFFFFFL;

        static int lengthOf(long form) {
            return (int) (form >>> 32) - 1;
        }

        static int soundAt(long form, int i) {
            return (int) (form >>> 4 * i) & 15;
        }

        /** The form of so many sounds, four bits each. */
        static long of(long sounds, int length) {
            return (long) (length + 1) << 32 | sounds;
        }

        /** From the last vowel on; ABSENT without one. */
        static long tailOf(long form, int vowels) {
            int length = lengthOf(form);
            for (int i = length - 1; i >= 0; i--) {
                if ((vowels >> soundAt(form, i) & 1) != 0) {
                    return of((form & SOUND_BITS) >>> 4 * i, length - i);
                }
            }
            return ABSENT;
        }

        static int beatsOf(long form, int vowels) {
            int length = lengthOf(form);
            int beats = 0;
            for (int i = 0; i < length; i++) {
                beats += vowels >> soundAt(form, i) & 1;
            }
            return beats;
        }
    }

    /** A law as it is told, and as sets of sounds by what the classes are now. */
    private static final class Law {
        private static final int LOST = -1;
        private static final int ANY = -1;
        private static final int EDGE = 16;
        private static final int ANY_SET = (1 << EDGE + 1) - 1;

        private int toldGoes;
        private int toldLeft;
        private int toldRight;
        private int becomes;
        private int goes;
        private int left;
        private int right;

        /** Reads it; where the text can't go on so, or FINE. */
        int read(Text text) {
            toldGoes = text.signAt(0);
            if (!Text.isSoundOrClass(toldGoes)) {
                return 0;
            }
            if (text.signAt(1) != '>') {
                return 1;
            }
            int at = 2;
            becomes = LOST;
            if (Text.isSound(text.signAt(at))) {
                becomes = text.signAt(at) - 'a';
                at++;
            }
            toldLeft = ANY;
            toldRight = ANY;
            return text.signAt(at) == '/' ? readSides(text, at + 1) : overAt(text, at);
        }

        private int readSides(Text text, int from) {
            int at = from;
            if (isSide(text.signAt(at))) {
                toldLeft = text.signAt(at);
                at++;
            }
            if (text.signAt(at) != '_') {
                return at;
            }
            at++;
            if (isSide(text.signAt(at))) {
                toldRight = text.signAt(at);
                at++;
            }
            return overAt(text, at);
        }

        private static int overAt(Text text, int at) {
            return text.signAt(at) == Text.OVER ? Text.FINE : at;
        }

        private static boolean isSide(int sign) {
            return sign == '#' || Text.isSoundOrClass(sign);
        }

        void tune(int[] classes) {
            goes = setOf(toldGoes, classes);
            left = setOf(toldLeft, classes);
            right = setOf(toldRight, classes);
        }

        private static int setOf(int told, int[] classes) {
            if (told == ANY) {
                return ANY_SET;
            }
            if (told == '#') {
                return 1 << EDGE;
            }
            if (Text.isSound(told)) {
                return 1 << told - 'a';
            }
            int c = told - 'A';
            return isBelow(c, classes.length) ? classes[c] : 0;
        }

        long workOn(long form) {
            int length = Form.lengthOf(form);
            long made = 0;
            int size = 0;
            int before = EDGE;
            for (int i = 0; i < length; i++) {
                int sound = Form.soundAt(form, i);
                int behind = i + 1 < length ? Form.soundAt(form, i + 1) : EDGE;
                boolean hit = (goes >> sound & left >> before & right >> behind & 1) != 0;
                int now = hit ? becomes : sound;
                if (now != LOST) {
                    made |= (long) now << 4 * size;
                    size++;
                }
                before = sound;
            }
            return Form.of(made, size);
        }
    }

    /**
     * Words as they are spelt and as they become. A course is a row of laws that have worked one
     * behind the other; courses are numbered as they are first walked, and on each the form of every
     * word is made once from the course that it goes on from.
     */
    private static final class Tongue {
        static final int SPELT = 0;
        private static final int FIRST_ROOM = 32;

        final Law[] laws = new Law[MOST_LAWS];
        int lawCount = 0;
        int words = 0;
        final int[] classes = new int[CLASSES];
        private int walked = 1;
        private int[] following = new int[FIRST_ROOM * MOST_LAWS];
        private long[] forms = new long[FIRST_ROOM * MOST_WORDS];

        Tongue() {
            for (int i = 0; i < MOST_LAWS; i++) {
                laws[i] = new Law();
            }
        }

        int vowels() {
            return classes[0];
        }

        void setClass(int which, int bits) {
            classes[which] = bits;
            for (int i = 0; i < lawCount; i++) {
                laws[i].tune(classes);
            }
            forgetCourses();
        }

        /** The forms on courses depend on laws, classes and words: they are made anew. */
        private void forgetCourses() {
            int used = walked * MOST_LAWS;
            for (int i = 0; i < used; i++) {
                following[i] = 0;
            }
            walked = 1;
        }

        int addWord(long form) {
            int number = words;
            forms[SPELT * MOST_WORDS + number] = form;
            words++;
            forgetCourses();
            return number;
        }

        int addLaw() {
            int number = lawCount;
            laws[number].tune(classes);
            lawCount++;
            return number;
        }

        int courseAfter(int course, int law) {
            int at = course * MOST_LAWS + law;
            if (following[at] == 0) {
                makeRoom();
                for (int w = 0; w < words; w++) {
                    forms[walked * MOST_WORDS + w] = laws[law].workOn(forms[course * MOST_WORDS + w]);
                }
                following[at] = walked;
                walked++;
            }
            return following[at];
        }

        private void makeRoom() {
            if ((walked + 1) * MOST_LAWS > following.length) {
                following = Arrays.copyOf(following, 2 * following.length);
                forms = Arrays.copyOf(forms, 2 * forms.length);
            }
        }

        long formOn(int course, int word) {
            return forms[course * MOST_WORDS + word];
        }

        long tailOn(int course, int word) {
            return Form.tailOf(formOn(course, word), vowels());
        }

        boolean rhymeOn(int course, int one, int other) {
            long tail = tailOn(course, one);
            return tail != Form.ABSENT && tail == tailOn(course, other);
        }

        /** Words (bits) whose forms on two courses differ. */
        int differing(int course, int otherCourse) {
            int bits = 0;
            for (int w = 0; w < words; w++) {
                bits |= formOn(course, w) != formOn(otherCourse, w) ? 1 << w : 0;
            }
            return bits;
        }

        /** Words (bits) that sound like a word, with it. */
        int saidLike(int course, int word) {
            int bits = 0;
            for (int w = 0; w < words; w++) {
                bits |= formOn(course, w) == formOn(course, word) ? 1 << w : 0;
            }
            return bits;
        }
    }

    /** Histories: in which order laws work, and in which years they come; and how late at each place. */
    private static final class Past {
        static final int ALL_LAWS = (1 << MOST_LAWS) - 1;
        private static final int LAW_BITS = 3;
        private static final int YEAR_BITS = 9;

        private final Tongue tongue;
        final int[] lags = new int[PLACES];
        int histories = 1;
        private int laws = 0;
        // of each history the laws in the order in which they work, and their years, the first one lowest
        private final int[] orders = new int[MOST_HISTORIES];
        private final long[] years = new long[MOST_HISTORIES];
        private final int[] firstYears = new int[MOST_LAWS];

        Past(Tongue tongue) {
            this.tongue = tongue;
        }

        /** Parts each history into as many as the new law has years. */
        void addLaw(int first, int step, int many) {
            // from the last one down, as the new rows stand behind the old one that they are made of
            for (int h = histories - 1; h >= 0; h--) {
                int order = orders[h];
                long inYears = years[h];
                for (int i = 0; i < many; i++) {
                    insert(h * many + i, order, inYears, first + i * step);
                }
            }
            firstYears[laws] = first;
            laws++;
            histories *= many;
        }

        /** The new law has the greatest number: of equal years it works last. */
        private void insert(int history, int order, long inYears, int year) {
            int turn = 0;
            while (turn < laws && yearIn(inYears, turn) <= year) {
                turn++;
            }
            int lawShift = LAW_BITS * turn;
            int yearShift = YEAR_BITS * turn;
            orders[history] = order & (1 << lawShift) - 1
                | laws << lawShift
                | order >> lawShift << lawShift + LAW_BITS;
            years[history] = inYears & (1L << yearShift) - 1
                | (long) year << yearShift
                | inYears >> yearShift << yearShift + YEAR_BITS;
        }

        private static int yearIn(long inYears, int turn) {
            return (int) (inYears >> YEAR_BITS * turn) & (1 << YEAR_BITS) - 1;
        }

        private int lawAt(int history, int turn) {
            return orders[history] >> LAW_BITS * turn & (1 << LAW_BITS) - 1;
        }

        int turnOf(int history, int law) {
            int turn = 0;
            while (turn < laws - 1 && lawAt(history, turn) != law) {
                turn++;
            }
            return turn;
        }

        int yearOf(int history, int law) {
            return yearIn(years[history], turnOf(history, law));
        }

        boolean hasCome(int law, int history, int year, int place) {
            return yearOf(history, law) + lags[place] <= year;
        }

        /** The course at a place in a year. */
        int courseAt(int history, int year, int place) {
            return courseAmong(history, year - lags[place], ALL_LAWS);
        }

        /** The course by some laws alone, those of years up to one. */
        int courseAmong(int history, int upTo, int among) {
            int course = Tongue.SPELT;
            long inYears = years[history];
            for (int turn = 0; turn < laws && yearIn(inYears, turn) <= upTo; turn++) {
                int law = lawAt(history, turn);
                if ((among >> law & 1) != 0) {
                    course = tongue.courseAfter(course, law);
                }
            }
            return course;
        }

        /** The course of all laws that work ahead of one. */
        int courseUpTo(int history, int law) {
            int course = Tongue.SPELT;
            for (int turn = 0; turn < laws && lawAt(history, turn) != law; turn++) {
                course = tongue.courseAfter(course, lawAt(history, turn));
            }
            return course;
        }

        /** The course on which two laws work in each other's place. */
        int courseSwapped(int history, int upTo, int one, int other) {
            int course = Tongue.SPELT;
            for (int turn = 0; turn < laws && yearIn(years[history], turn) <= upTo; turn++) {
                int law = lawAt(history, turn);
                course = tongue.courseAfter(course, law == one ? other : law == other ? one : law);
            }
            return course;
        }

        /** The years in which words may come to be said otherwise: 0, then those in which laws come, ascending. */
        int newsYear(int history, int turn, int place) {
            return turn == 0 ? 0 : yearIn(years[history], turn - 1) + lags[place];
        }

        /** Whether all laws but some have their first years. */
        boolean isFirstBut(int history, int some) {
            for (int law = 0; law < laws; law++) {
                if ((some >> law & 1) == 0 && yearOf(history, law) != firstYears[law]) {
                    return false;
                }
            }
            return true;
        }
    }

    /** A sign of how it was said. */
    private static final class Sign {
        static final int RHYME = 0;
        static final int PUN = 1;
        static final int BEATS = 2;
        static final int BOOK = 3;
        static final int APART = 4;
        private static final int FIRST_TRUST = 5;

        int kind;
        int one;
        int other;
        int number;
        int year;
        int place;
        int poet = 0;
        int trust = FIRST_TRUST;

        void tell(int kind, int one, int other, int number) {
            this.kind = kind;
            this.one = one;
            // signs of one word are told with whatever second one: it is never looked up
            this.other = kind == BEATS || kind == BOOK ? one : other;
            this.number = number;
        }

        void put(int year, int place) {
            this.year = year;
            this.place = place;
        }

        boolean isSoOn(int course, Tongue tongue) {
            return isSoOf(tongue.formOn(course, one), tongue.formOn(course, other), tongue.vowels());
        }

        boolean isSoOf(long first, long second, int vowels) {
            switch (kind) {
                case PUN: return first == second;
                case BEATS: return Form.beatsOf(first, vowels) == number;
                case BOOK: return isBooked(first);
                default: return areTailsSo(Form.tailOf(first, vowels), Form.tailOf(second, vowels));
            }
        }

        private boolean areTailsSo(long first, long second) {
            boolean both = first != Form.ABSENT && second != Form.ABSENT;
            return both && (first == second) == (kind == RHYME);
        }

        private boolean isBooked(long form) {
            int at = number >> 4;
            return at < Form.lengthOf(form) && Form.soundAt(form, at) == (number & 15);
        }
    }

    /** All signs, and of each history which of them hold by it. */
    private static final class Signs {
        private final Tongue tongue;
        private final Past past;
        final Sign[] all = new Sign[MOST_SIGNS];
        int told = 0;
        int on = 0;
        // known anew only when it is asked for: signs in doubt (bits) are looked at then
        private final int[] held = new int[MOST_HISTORIES];
        private int doubted = 0;

        Signs(Tongue tongue, Past past) {
            this.tongue = tongue;
            this.past = past;
            for (int s = 0; s < MOST_SIGNS; s++) {
                all[s] = new Sign();
            }
        }

        int addTold() {
            int number = told;
            told++;
            on |= 1 << number;
            doubted |= 1 << number;
            return number;
        }

        void doubtAll() {
            doubted = (1 << told) - 1;
        }

        void doubtPlace(int place) {
            doubted |= atPlace(place);
        }

        private int atPlace(int place) {
            int bits = 0;
            for (int s = 0; s < told; s++) {
                bits |= all[s].place == place ? 1 << s : 0;
            }
            return bits;
        }

        /** Makes known what is in doubt: to be called ahead of all that asks which signs hold. */
        void lookAnew() {
            for (int s = 0; s < told; s++) {
                if ((doubted >> s & 1) != 0) {
                    lookAt(s);
                }
            }
            doubted = 0;
        }

        private void lookAt(int s) {
            int bit = 1 << s;
            int upTo = all[s].year - past.lags[all[s].place];
            for (int h = 0; h < past.histories; h++) {
                boolean so = all[s].isSoOn(past.courseAmong(h, upTo, Past.ALL_LAWS), tongue);
                held[h] = so ? held[h] | bit : held[h] & ~bit;
            }
        }

        /** Signs (bits) that hold by a history. */
        int heldBy(int history) {
            return held[history];
        }

        /** Signs (bits) that are on and do not hold by a history. */
        int failingBy(int history) {
            return on & ~held[history];
        }

        boolean fitsTo(int history) {
            return (on & ~held[history]) == 0;
        }

        int fitCount() {
            int fitting = 0;
            for (int h = 0; h < past.histories; h++) {
                fitting += fitsTo(h) ? 1 : 0;
            }
            return fitting;
        }

        int fitCountHolding(int s) {
            int holding = 0;
            for (int h = 0; h < past.histories; h++) {
                holding += fitsTo(h) ? held[h] >> s & 1 : 0;
            }
            return holding;
        }

        /** Whether some signs (bits) hold by some laws (bits) of a history alone. */
        boolean allAreSoAmong(int bits, int history, int laws) {
            for (int s = 0; s < told; s++) {
                if ((bits >> s & 1) != 0) {
                    int upTo = all[s].year - past.lags[all[s].place];
                    if (!all[s].isSoOn(past.courseAmong(history, upTo, laws), tongue)) {
                        return false;
                    }
                }
            }
            return true;
        }

        boolean someFitsWithLag(int place, int lag) {
            int there = on & atPlace(place);
            for (int h = 0; h < past.histories; h++) {
                if ((failingBy(h) & ~there) == 0 && allAreSoWithLag(there, h, lag)) {
                    return true;
                }
            }
            return false;
        }

        private boolean allAreSoWithLag(int bits, int history, int lag) {
            for (int s = 0; s < told; s++) {
                if ((bits >> s & 1) != 0) {
                    int upTo = all[s].year - lag;
                    if (!all[s].isSoOn(past.courseAmong(history, upTo, Past.ALL_LAWS), tongue)) {
                        return false;
                    }
                }
            }
            return true;
        }

        /** The weight of a history by some signs. */
        long weightOf(int history, int by) {
            int holding = held[history];
            long weight = 1;
            for (int s = 0; s < told; s++) {
                if ((by >> s & 1) != 0) {
                    weight *= (holding >> s & 1) != 0 ? all[s].trust : MOST_TRUST + 1 - all[s].trust;
                }
            }
            return weight;
        }

        /** A poet's rhymes (bits), on or not. */
        int rhymesOf(int poet) {
            int bits = 0;
            for (int s = 0; s < told; s++) {
                bits |= all[s].kind == Sign.RHYME && all[s].poet == poet ? 1 << s : 0;
            }
            return bits;
        }

        boolean isStaged(int s) {
            return (on >> s & 1) != 0 && (all[s].kind == Sign.RHYME || all[s].kind == Sign.PUN);
        }
    }

    /** Unlike ways to say a word, in the order in which they are met, each with a sum. */
    private static final class Ways {
        final long[] forms = new long[MOST_HISTORIES];
        final long[] sums = new long[MOST_HISTORIES];
        int size = 0;

        void clear() {
            size = 0;
        }

        void add(long form, long weight) {
            int i = 0;
            while (i < size && forms[i] != form) {
                i++;
            }
            if (i < size) {
                sums[i] += weight;
            } else if (size < MOST_HISTORIES) {
                forms[size] = form;
                sums[size] = weight;
                size++;
            }
        }

        /** Of equal sums the way that was met first. */
        int heaviest() {
            int best = 0;
            for (int i = 1; i < size; i++) {
                if (sums[i] > sums[best]) {
                    best = i;
                }
            }
            return best;
        }

        int shortest() {
            int least = MOST_SOUNDS;
            for (int i = 0; i < size; i++) {
                least = Math.min(least, Form.lengthOf(forms[i]));
            }
            return least;
        }

        int longest() {
            int most = 0;
            for (int i = 0; i < size; i++) {
                most = Math.max(most, Form.lengthOf(forms[i]));
            }
            return most;
        }
    }

    /** One way to say each of a few words, so that most rhymes and puns of them are so. */
    private static final class Stage {
        private static final int SEATS = 7;
        private static final int CHOICES = 3;

        private int invited = 0;
        int cast = 0;
        final int[] words = new int[SEATS];
        final int[] best = new int[SEATS];
        final int[] courses = new int[CHOICES];
        private final int[] chosen = new int[SEATS];
        private int pairs = 0;
        private final int[] firsts = new int[MOST_SIGNS];
        private final int[] seconds = new int[MOST_SIGNS];
        // of each sign by which of the nine choices of its two words it is so (bits)
        private final int[] so = new int[MOST_SIGNS];

        void clear() {
            invited = 0;
            cast = 0;
            pairs = 0;
        }

        void invite(int word) {
            invited |= 1 << word;
        }

        /** Seats go to the words of least numbers, whichever signs bring them. */
        void seat() {
            for (int w = 0; w < MOST_WORDS; w++) {
                if ((invited >> w & 1) != 0 && cast < SEATS) {
                    words[cast] = w;
                    cast++;
                }
            }
        }

        private int seatOf(int word) {
            for (int i = 0; i < cast; i++) {
                if (words[i] == word) {
                    return i;
                }
            }
            return NONE;
        }

        /** A sign of a word that is not there stays out. */
        void addPair(Sign sign, Tongue tongue) {
            int first = seatOf(sign.one);
            int second = seatOf(sign.other);
            if (first == NONE || second == NONE || pairs >= MOST_SIGNS) {
                return;
            }
            firsts[pairs] = first;
            seconds[pairs] = second;
            so[pairs] = 0;
            for (int i = 0; i < CHOICES; i++) {
                for (int j = 0; j < CHOICES; j++) {
                    long one = tongue.formOn(courses[i], sign.one);
                    long other = tongue.formOn(courses[j], sign.other);
                    so[pairs] |= sign.isSoOf(one, other, tongue.vowels()) ? 1 << i * CHOICES + j : 0;
                }
            }
            pairs++;
        }

        /** The most signs that are so; best tells the first choices by which they are. */
        int play() {
            int most = NONE;
            int rows = 1;
            for (int i = 0; i < cast; i++) {
                chosen[i] = 0;
                rows *= CHOICES;
            }
            for (int r = 0; r < rows; r++) {
                int now = countSo();
                if (now > most) {
                    most = now;
                    System.arraycopy(chosen, 0, best, 0, cast);
                }
                chooseNext();
            }
            return most;
        }

        private int countSo() {
            int many = 0;
            for (int p = 0; p < pairs; p++) {
                many += so[p] >> chosen[firsts[p]] * CHOICES + chosen[seconds[p]] & 1;
            }
            return many;
        }

        /** Rows come in ascending order: the last word's choice goes first. */
        private void chooseNext() {
            int i = cast - 1;
            while (i >= 0 && chosen[i] == CHOICES - 1) {
                chosen[i] = 0;
                i--;
            }
            if (i >= 0) {
                chosen[i]++;
            }
        }
    }

    /** What is kept under a number. */
    private static final class Kept {
        boolean used = false;
        private int told = 0;
        private int on = 0;
        private final int[] poets = new int[MOST_SIGNS];
        private final int[] trusts = new int[MOST_SIGNS];
        private final int[] lags = new int[PLACES];
        final int[] classes = new int[CLASSES];

        void take(Signs signs, int[] lagsNow, int[] classesNow) {
            used = true;
            told = signs.told;
            on = signs.on;
            for (int s = 0; s < told; s++) {
                poets[s] = signs.all[s].poet;
                trusts[s] = signs.all[s].trust;
            }
            System.arraycopy(lagsNow, 0, lags, 0, PLACES);
            System.arraycopy(classesNow, 0, classes, 0, CLASSES);
        }

        /** Signs that were told since stay as they are. */
        void giveBack(Signs signs, int[] lagsNow) {
            int since = ~((1 << told) - 1);
            signs.on = signs.on & since | on;
            for (int s = 0; s < told; s++) {
                signs.all[s].poet = poets[s];
                signs.all[s].trust = trusts[s];
            }
            System.arraycopy(lags, 0, lagsNow, 0, PLACES);
        }
    }
}
