/** The edges of promises 38 to 42; those of 37 stand with mark(). */
final class EdgesOfSeeking extends Edges {
    EdgesOfSeeking(Edge edge) {
        super(edge);
    }

    @Override
    void run() {
        look();
        lookRefused();
        settled();
        fell();
        town();
        swap();
        swapRefused();
    }

    /** Words cx, with a vowel x each, and a law in so many years from 10 on by which a becomes e. */
    private static RhymedThen vowels(int years, String... words) {
        RhymedThen x = new RhymedThen();
        x.group(0, Due.bits("aei"));
        Due.words(x, words);
        Due.law(x, "a>e", 10, 9 + years, 1);
        return x;
    }

    private void look() {
        edge.sentence(38, "Of all RHYMES of two WORDS in a YEAR at a PLACE the one that parts the HISTORIES that FIT "
            + "most evenly (how many it HOLDS by nearest to half; of equal ones the first by the lesser WORD, then "
            + "the other): how many it HOLDS by; the ROW: both WORDS.");
        RhymedThen two = vowels(4, "a", "e");
        edge.tells(two, "two words, never", two.look(9, 0), 0, 0, 1);
        edge.tells(two, "by one", two.look(10, 0), 1, 0, 1);
        edge.tells(two, "by all", two.look(13, 0), 4, 0, 1);
        RhymedThen x = vowels(4, "i", "a", "e", "ce");
        edge.tells(x, "all by all or none: the first", x.look(9, 0), 0, 0, 1);
        edge.tells(x, "half", x.look(11, 0), 2, 1, 2);
        edge.tells(x, "a quarter", x.look(10, 0), 1, 1, 2);
        edge.tells(x, "three quarters", x.look(12, 0), 3, 1, 2);
        RhymedThen later = vowels(4, "i", "e", "ci", "ce", "a");
        edge.tells(later, "the lesser word first", later.look(11, 0), 2, 1, 4);
        RhymedThen other = vowels(4, "a", "i", "e", "ce");
        edge.tells(other, "then the other one", other.look(11, 0), 2, 0, 2);
        other.lag(5, 200);
        edge.tells(other, "late", other.look(211, 5), 2, 0, 2);
        edge.tells(other, "late", other.look(209, 5), 0, 0, 1);
        other.mark(3, 0, 0, 10, 0, 4);
        edge.tells(other, "one history fits: the first", other.look(11, 0), 0, 0, 1);
        other.turn(0, false);
        edge.tells(other, "all fit", other.look(11, 0), 2, 0, 2);
        RhymedThen last = new RhymedThen();
        last.group(0, Due.bits("aei"));
        for (int w = 0; w < 20; w++) {
            Due.word(last, w < 18 ? "i" : w == 18 ? "e" : "a");
        }
        Due.law(last, "a>e", 10, 11, 1);
        edge.tells(last, "the last pair of 20 words", last.look(10, 0), 1, 18, 19);
    }

    private void lookRefused() {
        edge.sentence(38, "-2: none FITS;");
        edge.leaves("none fits", Whole::unfit, -2, x -> x.look(0, 0));
        edge.sentence(38, "NONE: others, fewer than two WORDS.");
        edge.limits("look", Whole::some, (x, v) -> x.look(v[0], v[1]), new int[] {9, 1}, YEAR, PLACE);
        edge.limits("look, none fits", Whole::unfit, (x, v) -> x.look(v[0], v[1]), new int[] {9, 1}, YEAR, PLACE);
        edge.refused("no words", () -> vowels(2), x -> x.look(0, 0));
        edge.refused("one word", () -> vowels(2, "a"), x -> x.look(0, 0));
        edge.is("two words", vowels(2, "a", "e").look(0, 0), 0);
        edge.refused("one word, none fits", () -> {
            RhymedThen x = vowels(2, "a");
            x.mark(2, 0, 0, 0, 0, 8);
            return x;
        }, x -> x.look(0, 0));
    }

    /** The last year in which a may come to be b; at place 5 it is later by a lag. */
    private void settledIs(int first, int last, int lag, int want) {
        RhymedThen x = new RhymedThen();
        Due.words(x, "a", "c");
        Due.law(x, "a>b", first, last, Math.max(1, last - first));
        x.lag(5, lag);
        edge.is("from " + first + " to " + last + " and " + lag, x.settled(0, 5), want);
        edge.is("another word", x.settled(1, 5), 0);
    }

    private void settled() {
        edge.sentence(39, "The first YEAR 0, 10, 20, .., 600 in which all HISTORIES that FIT SAY a WORD alike at a "
            + "PLACE, and that way from then on in all such YEARS (each YEAR for itself).");
        settledIs(5, 5, 0, 0);
        settledIs(0, 1, 0, 10);
        settledIs(1, 9, 0, 0);
        settledIs(1, 10, 0, 0);
        settledIs(10, 11, 0, 20);
        settledIs(10, 20, 0, 20);
        settledIs(10, 21, 0, 30);
        settledIs(300, 400, 0, 400);
        settledIs(300, 400, 1, 410);
        settledIs(300, 400, 190, 590);
        settledIs(300, 400, 191, 600);
        settledIs(300, 400, 200, 600);
        settledIs(399, 400, 200, 0);
        settledIs(390, 400, 200, 600);
        RhymedThen x = new RhymedThen();
        Due.word(x, "a");
        Due.law(x, "a>b", 20, 30, 10);
        Due.law(x, "b>c", 500 - 100, 500 - 100, 1);
        edge.is("the way may change from year to year", x.settled(0, 0), 30);
        x.mark(3, 0, 0, 25, 0, 0);
        edge.is("by the one history that fits", x.settled(0, 0), 0);
        edge.sentence(39, "-2: none FITS, or there is no such YEAR;");
        edge.leaves("none fits", Whole::unfit, -2, y -> y.settled(2, 0));
        RhymedThen never = Due.beds();
        edge.is("bad is never said alike by both", never.settled(0, 0), -2);
        edge.leaves("no such year", Due::beds, -2, y -> y.settled(0, 0));
        edge.sentence(39, "NONE: others.");
        edge.limits("settled", Whole::some, (y, v) -> y.settled(v[0], v[1]), new int[] {1, 1}, WORD, PLACE);
        edge.limits("settled, none fits", Whole::unfit, (y, v) -> y.settled(v[0], v[1]), new int[] {1, 1}, WORD, PLACE);
    }

    private void fell() {
        edge.sentence(40, "the greatest number of WORDS that are SAID alike; the ROW: they as bits, of as many the "
            + "set of the least WORD;");
        RhymedThen x = new RhymedThen();
        Due.words(x, "a");
        edge.tells(x, "one word", x.fell(0, 0, 0), 1, 1);
        Due.words(x, "b");
        edge.tells(x, "two unlike words", x.fell(0, 0, 0), 1, 1);
        Due.words(x, "c", "b");
        edge.tells(x, "two of four", x.fell(0, 0, 0), 2, 2 + 8);
        Due.words(x, "a");
        edge.tells(x, "two and two: that of the least word", x.fell(0, 0, 0), 2, 1 + 16);
        Due.words(x, "b");
        edge.tells(x, "three", x.fell(0, 0, 0), 3, 2 + 8 + 32);
        RhymedThen all = new RhymedThen();
        for (int w = 0; w < 20; w++) {
            Due.word(all, w == 0 ? "b" : "a");
        }
        Due.law(all, "b>a", 400, 400, 1);
        all.lag(5, 200);
        edge.tells(all, "all but the first", all.fell(0, 599, 5), 19, (1 << 20) - 2);
        edge.tells(all, "all", all.fell(0, 600, 5), 20, (1 << 20) - 1);
        RhymedThen full = new RhymedThen();
        for (int w = 0; w < 20; w++) {
            Due.word(full, "p");
        }
        for (int l = 0; l < 6; l++) {
            Due.law(full, "a>b", l, 10 - l, Math.max(1, 10 - 2 * l));
        }
        for (int h = 0; h < full.count(2); h++) {
            for (int year = 0; year <= 10; year++) {
                edge.tells(full, "20 words by " + h + " in " + year, full.fell(h, year, 0), 20, (1 << 20) - 1);
            }
        }
        edge.sentence(40, "0: no WORDS (the ROW stays).");
        edge.leaves("no words", () -> {
            RhymedThen none = new RhymedThen();
            none.wrong();
            return none;
        }, 0, none -> none.fell(0, 600, 5));
        edge.sentence(40, "NONE: others.");
        edge.limits("fell", Whole::some, (y, v) -> y.fell(v[0], v[1], v[2]), new int[] {0, 9, 1}, HISTORY, YEAR, PLACE);
        edge.limits("fell, no words", RhymedThen::new, (y, v) -> y.fell(v[0], v[1], v[2]), new int[] {0, 9, 1},
            Edge.to(0, 0), YEAR, PLACE);
    }

    private void town() {
        edge.sentence(41, "the YEAR (up to 600) from which on, at all PLACES, it has once been SAID so; the ROW: the "
            + "first PLACE at which that comes last.");
        RhymedThen x = new RhymedThen();
        Due.word(x, "a");
        Due.law(x, "a>b", 400, 400, 1);
        edge.tells(x, "as it is spelt", x.town(0, 0, 399, 0), 0, 0);
        edge.tells(x, "at all places at once", x.town(0, 0, 400, 0), 400, 0);
        x.lag(5, 200);
        edge.tells(x, "the last place, in the last year", x.town(0, 0, 400, 0), 600, 5);
        edge.tells(x, "as that place itself says it", x.town(0, 0, 600, 5), 600, 5);
        edge.tells(x, "as that place still says it", x.town(0, 0, 599, 5), 0, 0);
        x.lag(3, 200);
        edge.tells(x, "the first of both", x.town(0, 0, 400, 0), 600, 3);
        x.lag(4, 199);
        x.lag(3, 198);
        x.lag(5, 0);
        edge.tells(x, "the latest of all", x.town(0, 0, 400, 0), 599, 4);
        edge.sentence(41, "-2: at some it never is;");
        RhymedThen y = new RhymedThen();
        Due.word(y, "a");
        Due.law(y, "a>b", 0, 1, 1);
        y.lag(2, 1);
        y.fits();
        edge.tells(y, "in year 0 it has changed but there", y.town(0, 0, 0, 2), -2, 0);
        edge.tells(y, "in year 0 it is still said so at all", y.town(0, 1, 0, 0), 0, 0);
        edge.tells(y, "it has changed there, too", y.town(0, 0, 1, 2), 1, 2);
        edge.leaves("never", () -> {
            RhymedThen z = Whole.some();
            Due.law(z, "b>c", 0, 0, 1);
            return z;
        }, -2, z -> z.town(0, 0, 0, 1));
        edge.sentence(41, "NONE: others.");
        edge.limits("town", Whole::some, (z, v) -> z.town(v[0], v[1], v[2], v[3]), new int[] {1, 0, 9, 1},
            WORD, HISTORY, YEAR, PLACE);
    }

    private void swap() {
        edge.sentence(42, "WORDS (bits) that would be SAID otherwise, did the two work in each other's place (all "
            + "else in order).");
        RhymedThen x = new RhymedThen();
        Due.words(x, "a", "b", "c", "p");
        Due.law(x, "a>b", 10, 10, 1);
        Due.law(x, "b>c", 10, 10, 1);
        Due.law(x, "c>d", 20, 20, 1);
        edge.is("of one year", x.swap(0, 1, 0, 10, 0), 1);
        edge.is("told the other way", x.swap(1, 0, 0, 10, 0), 1);
        edge.is("a law that has come behind them works, too", x.swap(0, 1, 0, 20, 0), 1);
        edge.is("the second and the third", x.swap(1, 2, 0, 20, 0), 3);
        edge.is("the outer ones round the one between", x.swap(0, 2, 0, 20, 0), 3);
        x.lag(1, 10);
        Due.law(x, "b>p", 21, 21, 1);
        edge.is("late, a fourth law has not come", x.swap(1, 2, 0, 30, 1), 3);
        edge.is("late, it has come", x.swap(0, 1, 0, 31, 1), 1);
        Due.law(x, "d>p", 22, 22, 1);
        Due.law(x, "c>p", 22, 22, 1);
        edge.is("late, the last laws have not come", x.swap(1, 2, 0, 31, 1), 3);
        edge.is("late, they have come: all are said alike", x.swap(1, 2, 0, 32, 1), 0);
        RhymedThen all = new RhymedThen();
        for (int w = 0; w < 20; w++) {
            Due.word(all, "a");
        }
        Due.law(all, "a>b", 0, 0, 1);
        Due.law(all, "b>c", 0, 0, 1);
        edge.is("20 words", all.swap(0, 1, 0, 0, 0), (1 << 20) - 1);
        RhymedThen none = new RhymedThen();
        Due.law(none, "a>b", 0, 0, 1);
        Due.law(none, "b>c", 0, 0, 1);
        edge.is("no words", none.swap(0, 1, 0, 0, 0), 0);
    }

    private void swapRefused() {
        edge.sentence(42, "NONE: others, a LAW that has not come there by then, one LAW twice.");
        // by 0 the laws come in 100 and 50, by 1 in 100 and 150; 20 years later at place 1
        int[][] lateYears = {{100, 0, 0}, {150, 1, 0}, {120, 0, 1}, {170, 1, 1}, {300, 0, 5}, {350, 1, 5}};
        for (int[] late : lateYears) {
            edge.is("both have come", Whole.some().swap(0, 1, late[1], late[0], late[2]) != RhymedThen.NONE, true);
            edge.refused("not yet", Whole::some, x -> x.swap(0, 1, late[1], late[0] - 1, late[2]));
            edge.refused("not yet", Whole::some, x -> x.swap(1, 0, late[1], late[0] - 1, late[2]));
        }
        edge.refused("one law twice", Whole::some, x -> x.swap(0, 0, 0, 600, 0));
        edge.refused("one law twice", Whole::some, x -> x.swap(1, 1, 0, 600, 0));
        edge.limits("swap of", Whole::some, (x, v) -> x.swap(v[0], 1, 0, 600, 0), new int[] {0}, Edge.to(0, 0));
        edge.limits("swap of", Whole::some, (x, v) -> x.swap(v[0], 0, 0, 600, 0), new int[] {1}, Edge.to(1, 1));
        edge.limits("swap with", Whole::some, (x, v) -> x.swap(1, v[0], 0, 600, 0), new int[] {0}, Edge.to(0, 0));
        edge.limits("swap with", Whole::some, (x, v) -> x.swap(0, v[0], 0, 600, 0), new int[] {1}, Edge.to(1, 1));
        edge.limits("swap by", Whole::some, (x, v) -> x.swap(0, 1, v[0], v[1], v[2]), new int[] {0, 400, 1},
            HISTORY, Edge.to(120, 600), PLACE);
    }
}
