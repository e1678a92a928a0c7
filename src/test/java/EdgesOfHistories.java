/** The edges of promises 20 to 27. */
final class EdgesOfHistories extends Edges {
    EdgesOfHistories(Edge edge) {
        super(edge);
    }

    @Override
    void run() {
        fits();
        span();
        order();
        wrong();
        blunder();
        sure();
        shows();
        least();
        leastOfAll();
    }

    /** 600 histories: word 0, a, becomes b by the first law, from year 0 to 4. */
    private static RhymedThen many() {
        RhymedThen x = new RhymedThen();
        Due.words(x, "a", "b");
        Due.law(x, "a>b", 0, 4, 1);
        Due.law(x, "c>d", 0, 4, 1);
        Due.law(x, "c>d", 0, 7, 1);
        Due.law(x, "c>d", 0, 2, 1);
        return x;
    }

    private void fits() {
        edge.sentence(20, "How many HISTORIES FIT; the ROW: the first one (none without).");
        RhymedThen x = many();
        edge.tells(x, "all 600", x.fits(), 600, 0);
        x.mark(3, 0, 0, 3, 0, 0);
        edge.tells(x, "still a in year 3: the last 120", x.fits(), 120, 480);
        x.mark(3, 0, 0, 4, 0, 1);
        edge.tells(x, "b in year 4", x.fits(), 120, 480);
        x.mark(3, 0, 0, 3, 0, 1);
        edge.tells(x, "none", x.fits(), 0);
        RhymedThen last = new RhymedThen();
        Due.word(last, "a");
        Due.law(last, "a>b", 0, 7, 1);
        last.mark(3, 0, 0, 6, 0, 0);
        edge.tells(last, "the last one alone", last.fits(), 1, 7);
    }

    private void span() {
        edge.sentence(21, "Of the HISTORIES that FIT the earliest YEAR of a LAW (what 0), the latest (1).");
        RhymedThen x = many();
        edge.is("the earliest", x.span(0, 0), 0);
        edge.is("the latest", x.span(0, 1), 4);
        x.mark(3, 0, 0, 0, 0, 0);
        x.mark(3, 0, 0, 3, 0, 1);
        edge.is("the earliest", x.span(0, 0), 1);
        edge.is("the latest", x.span(0, 1), 3);
        RhymedThen eight = new RhymedThen();
        Due.word(eight, "a");
        Due.law(eight, "a>b", 10, 80, 10);
        edge.is("the first year by the first history alone", eight.span(0, 0), 10);
        edge.is("the last year by the last history alone", eight.span(0, 1), 80);
        eight.mark(3, 0, 0, 79, 0, 0);
        edge.is("one history fits: the earliest", eight.span(0, 0), 80);
        edge.is("one history fits: the latest", eight.span(0, 1), 80);
        edge.is("of another law the latest", x.span(2, 1), 7);
        edge.is("of another law the earliest", x.span(2, 0), 0);
        edge.sentence(21, "-2: none FITS;");
        edge.leaves("none fits", Whole::unfit, -2, y -> y.span(0, 0));
        edge.leaves("none fits", Whole::unfit, -2, y -> y.span(1, 1));
        edge.sentence(21, "NONE: others.");
        edge.limits("span", Whole::some, (y, v) -> y.span(v[0], v[1]), new int[] {1, 0}, LAW, END);
        edge.limits("span, none fits", Whole::unfit, (y, v) -> y.span(v[0], v[1]), new int[] {1, 0}, LAW, END);
    }

    private void orderIs(int first, int last, int want) {
        RhymedThen x = new RhymedThen();
        Due.law(x, "a>b", 10, 10, 1);
        Due.law(x, "a>b", first, last, 1);
        String years = "10 and " + first + " to " + last;
        edge.is(years, x.order(0, 1), want);
        edge.is(years + ", the other way", x.order(1, 0), want == 0 ? 0 : 3 - want);
    }

    private void order() {
        edge.sentence(22, "Of two unlike LAWS, in all HISTORIES that FIT: 1: the first works ahead of the other one "
            + "(by YEARS, of equal ones by numbers); 2: the other way; 0: it may be either.");
        orderIs(11, 11, 1);
        orderIs(10, 10, 1);
        orderIs(9, 9, 2);
        orderIs(10, 12, 1);
        orderIs(9, 10, 0);
        orderIs(8, 9, 2);
        orderIs(9, 11, 0);
        edge.is("by the history that fits", Whole.some().order(0, 1), 1);
        edge.is("by the history that fits", Whole.some().order(1, 0), 2);
        edge.sentence(22, "-2: none FITS;");
        edge.leaves("none fits", Whole::unfit, -2, y -> y.order(0, 1));
        edge.sentence(22, "NONE: others.");
        // of two laws the other one is 0 or 1: each end for itself
        edge.limits("order of", Whole::some, (y, v) -> y.order(v[0], 1), new int[] {0}, Edge.to(0, 0));
        edge.limits("order of", Whole::some, (y, v) -> y.order(v[0], 0), new int[] {1}, Edge.to(1, 1));
        edge.limits("order to", Whole::some, (y, v) -> y.order(1, v[0]), new int[] {0}, Edge.to(0, 0));
        edge.limits("order to", Whole::some, (y, v) -> y.order(0, v[0]), new int[] {1}, Edge.to(1, 1));
        edge.refused("one law, none fits", Whole::unfit, y -> y.order(0, 0));
        edge.refused("no law, none fits", Whole::unfit, y -> y.order(0, 2));
    }

    private void wrong() {
        edge.sentence(23, "The fewest SIGNS that are ON and do not HOLD by a HISTORY; the ROW: the first such "
            + "HISTORY, these SIGNS (bits).");
        RhymedThen x = Due.beds();
        edge.tells(x, "no signs", x.wrong(), 0, 0, 0);
        for (int s = 0; s < 16; s++) {
            x.mark(1, 0, 2, 0, 0, 0);
            edge.tells(x, "signs that never hold", x.wrong(), s + 1, 0, (1 << s + 1) - 1);
        }
        for (int s = 0; s < 16; s++) {
            x.turn(s, false);
        }
        edge.tells(x, "all are off", x.wrong(), 0, 0, 0);
        RhymedThen y = Whole.unfit();
        edge.tells(y, "sign 1 alone errs by 1, two by 0", y.wrong(), 1, 1, 2);
        y.turn(0, false);
        edge.tells(y, "one errs by each: the first", y.wrong(), 1, 0, 4);
        RhymedThen last = many();
        last.mark(3, 0, 0, 3, 0, 0);
        edge.tells(last, "the first by which none errs", last.wrong(), 0, 480, 0);
    }

    private void blunder() {
        edge.sentence(24, "SIGNS that are ON (bits) without each of which, taken out alone, some HISTORY would FIT, "
            + "though none FITS as it is.");
        RhymedThen y = Whole.unfit();
        edge.is("sign 1 alone", y.blunder(), 2);
        y.turn(0, false);
        edge.is("1 or 2", y.blunder(), 6);
        RhymedThen x = Due.beds();
        x.mark(1, 0, 2, 0, 0, 0);
        edge.is("one that never holds", x.blunder(), 1);
        x.mark(1, 0, 2, 0, 0, 0);
        edge.is("two of them", x.blunder(), 0);
        x.turn(0, false);
        edge.is("one of them is off", x.blunder(), 2);
        RhymedThen full = Due.beds();
        for (int s = 0; s < 16; s++) {
            full.mark(s < 15 ? 2 : 1, 2, 0, 0, 0, 0);
        }
        edge.is("the last of 16", full.blunder(), 1 << 15);
        edge.sentence(24, "0, if some FITS.");
        edge.is("some fits", Whole.some().blunder(), 0);
        RhymedThen one = Due.beds();
        one.mark(0, 0, 1, 120, 0, 0);
        edge.is("some fits, though by another history a sign alone errs", one.blunder(), 0);
        edge.is("no signs", Due.beds().blunder(), 0);
        edge.is("no laws", new RhymedThen().blunder(), 0);
    }

    private void sure() {
        edge.sentence(25, "In how many ways a WORD is SAID by all HISTORIES that FIT (1: it is sure); the ROW: of "
            + "these ways how many SOUNDS the shortest has, and the longest.");
        RhymedThen x = new RhymedThen();
        Due.words(x, "aaaaaaaa", "b");
        Due.law(x, "a>", 10, 20, 10);
        edge.tells(x, "ahead of it", x.sure(0, 9, 0), 1, 8, 8);
        edge.tells(x, "lost or not", x.sure(0, 10, 0), 2, 0, 8);
        edge.tells(x, "lost or not", x.sure(0, 19, 0), 2, 0, 8);
        edge.tells(x, "lost", x.sure(0, 20, 0), 1, 0, 0);
        x.mark(3, 0, 0, 15, 0, 0);
        edge.tells(x, "the sign tells", x.sure(0, 19, 0), 1, 8, 8);
        x.lag(5, 200);
        edge.tells(x, "late", x.sure(0, 220, 5), 1, 0, 0);
        edge.tells(x, "late", x.sure(0, 219, 5), 1, 8, 8);
        RhymedThen ways = new RhymedThen();
        Due.word(ways, "abcdef");
        for (int l = 0; l < 6; l++) {
            Due.law(ways, (char) ('a' + l) + ">", 0, 1, 1);
        }
        edge.tells(ways, "64 ways", ways.sure(0, 0, 0), 64, 0, 6);
        edge.sentence(25, "-2: none FITS;");
        edge.leaves("none fits", Whole::unfit, -2, y -> y.sure(0, 0, 0));
        edge.sentence(25, "NONE: others.");
        edge.limits("sure", Whole::some, (y, v) -> y.sure(v[0], v[1], v[2]), new int[] {1, 9, 1}, WORD, YEAR, PLACE);
        edge.limits("sure, none fits", Whole::unfit, (y, v) -> y.sure(v[0], v[1], v[2]), new int[] {1, 9, 1},
            WORD, YEAR, PLACE);
    }

    private void shows() {
        edge.sentence(26, "SIGNS that are ON (bits) which HOLD by a HISTORY, and would not without a LAW.");
        RhymedThen x = Whole.some();
        edge.is("a>e by 1: 0 and 2", x.shows(0, 1), 5);
        edge.is("e> by 1", x.shows(1, 1), 0);
        edge.is("e> by 0: 1 is off", x.shows(1, 0), 0);
        x.turn(1, true);
        edge.is("e> by 0: 1 is on", x.shows(1, 0), 2);
        edge.is("a>e by 0", x.shows(0, 0), 0);
        RhymedThen all = new RhymedThen();
        Due.word(all, "a");
        Due.law(all, "a>b", 10, 10, 1);
        for (int s = 0; s < 16; s++) {
            all.mark(3, 0, 0, s == 7 ? 9 : 10, 0, 1);
        }
        edge.is("all that are in its year or later", all.shows(0, 0), 65535 & ~(1 << 7));
        all.lag(0, 1);
        edge.is("late", all.shows(0, 0), 0);
        edge.is("no signs", Due.beds().shows(0, 0), 0);
        edge.sentence(26, "NONE: none such.");
        edge.limits("shows", Whole::some, (y, v) -> y.shows(v[0], v[1]), new int[] {1, 0}, LAW, HISTORY);
    }

    private void least() {
        edge.sentence(27, "The least set of LAWS (fewest, then least bits) so that some HISTORY of these LAWS alone "
            + "(others never come) FITS: how many; the ROW: they as bits, the first such HISTORY.");
        RhymedThen none = new RhymedThen();
        edge.tells(none, "no laws", none.least(), 0, 0, 0);
        RhymedThen free = Due.beds();
        edge.tells(free, "no signs", free.least(), 0, 0, 0);
        // either law 2 alone, or laws 0 and 1
        RhymedThen x = new RhymedThen();
        Due.word(x, "a");
        Due.law(x, "a>b", 10, 10, 1);
        Due.law(x, "b>c", 20, 21, 1);
        Due.law(x, "a>c", 30, 31, 1);
        x.mark(3, 0, 0, 31, 0, 2);
        edge.tells(x, "one of more bits ahead of two of less", x.least(), 1, 4, 0);
        x.mark(3, 0, 0, 30, 0, 0);
        edge.tells(x, "the first history", x.least(), 1, 4, 1);
        x.turn(1, false);
        x.mark(3, 0, 0, 30, 0, 2);
        x.mark(3, 0, 0, 29, 0, 2);
        edge.tells(x, "two laws", x.least(), 2, 3, 0);
        x.mark(3, 0, 0, 20, 0, 1);
        edge.tells(x, "the second later", x.least(), 2, 3, 2);
        RhymedThen y = new RhymedThen();
        Due.word(y, "a");
        Due.law(y, "a>b", 10, 10, 1);
        Due.law(y, "a>b", 10, 10, 1);
        y.mark(3, 0, 0, 10, 0, 1);
        edge.tells(y, "of as few the least bits", y.least(), 1, 1, 0);
        y.lag(0, 1);
        edge.tells(y, "late: none, the ROW stays", y.least(), -2, 1, 0);
        y.lag(0, 0);
        y.lag(1, 1);
        edge.tells(y, "late elsewhere", y.least(), 1, 1, 0);
    }

    private void leastOfAll() {
        RhymedThen x = new RhymedThen();
        Due.word(x, "a");
        for (int l = 0; l < 6; l++) {
            Due.law(x, (char) ('a' + l) + ">" + (char) ('b' + l), l, l + 1, 1);
        }
        x.mark(3, 0, 0, 6, 0, 6);
        edge.tells(x, "all six", x.least(), 6, 63, 0);
        x.mark(3, 0, 0, 5, 0, 5);
        edge.tells(x, "the last one in its last year", x.least(), 6, 63, 1);
        edge.sentence(27, "-2: none does.");
        x.mark(3, 0, 0, 6, 0, 7);
        edge.tells(x, "none, the ROW stays", x.least(), -2, 63, 1);
        edge.leaves("none does", Whole::unfit, -2, RhymedThen::least);
        RhymedThen none = new RhymedThen();
        Due.words(none, "a", "b");
        none.mark(1, 0, 1, 0, 0, 0);
        edge.tells(none, "no laws", none.least(), -2);
    }
}
