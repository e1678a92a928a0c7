/** The edges of promises 9 to 15. */
final class EdgesOfSaying extends Edges {
    EdgesOfSaying(Edge edge) {
        super(edge);
    }

    @Override
    void run() {
        said();
        changes();
        alike();
        one();
        rhymes();
        chance();
        works();
    }

    /** Six laws, each a year behind the other, take a through the sounds up to g; in the last place all come late. */
    private static RhymedThen chain(int first) {
        RhymedThen x = new RhymedThen();
        Due.words(x, "a", "b");
        for (int l = 0; l < 6; l++) {
            Due.law(x, (char) ('a' + l) + ">" + (char) ('b' + l), first + l, first + l, 1);
        }
        x.lag(5, 200);
        return x;
    }

    private void said() {
        edge.sentence(9, "How many SOUNDS a WORD is SAID with; the ROW: they.");
        RhymedThen x = new RhymedThen();
        Due.words(x, "abcdefgh", "p");
        Due.law(x, "p>", 1, 1, 1);
        edge.tells(x, "eight", x.said(0, 0, 600, 5), 8, 0, 1, 2, 3, 4, 5, 6, 7);
        edge.tells(x, "one", x.said(1, 0, 0, 0), 1, 15);
        edge.tells(x, "nothing is left", x.said(1, 0, 1, 0), 0);
        edge.sentence(9, "NONE: no such WORD, HISTORY, YEAR, PLACE.");
        edge.limits("said", Whole::some, (y, v) -> y.said(v[0], v[1], v[2], v[3]), new int[] {1, 0, 9, 1},
            WORD, HISTORY, YEAR, PLACE);
    }

    private void changes() {
        edge.sentence(10, "In how many YEARS (0 .. 600) a WORD comes to be SAID otherwise than the YEAR before (in "
            + "YEAR 0: than it is SPELT); the ROW: these, ascending.");
        RhymedThen x = chain(0);
        edge.tells(x, "from year 0 on", x.changes(0, 0, 0), 6, 0, 1, 2, 3, 4, 5);
        edge.tells(x, "not by a law that does nothing", x.changes(1, 0, 0), 5, 1, 2, 3, 4, 5);
        RhymedThen late = chain(395);
        edge.tells(late, "up to year 400", late.changes(0, 0, 0), 6, 395, 396, 397, 398, 399, 400);
        edge.tells(late, "up to year 600", late.changes(0, 0, 5), 6, 595, 596, 597, 598, 599, 600);
        late.lag(0, 199);
        edge.tells(late, "up to year 599", late.changes(1, 0, 0), 5, 595, 596, 597, 598, 599);
        RhymedThen none = new RhymedThen();
        Due.word(none, "a");
        edge.tells(none, "without laws", none.changes(0, 0, 0), 0);
        Due.law(none, "a>b", 0, 0, 1);
        Due.law(none, "b>a", 0, 0, 1);
        edge.tells(none, "there and back in year 0", none.changes(0, 0, 0), 0);
        edge.sentence(10, "NONE: others.");
        edge.limits("changes", Whole::some, (y, v) -> y.changes(v[0], v[1], v[2]), new int[] {1, 0, 1},
            WORD, HISTORY, PLACE);
    }

    private void alike() {
        edge.sentence(11, "Of two WORDS: 2 if they are SAID alike, 1 if they RHYME else, 0.");
        RhymedThen x = new RhymedThen();
        x.group(0, 1);
        Due.words(x, "ab", "ab", "cab", "ac", "cb", "cb", "p", "pp");
        Due.law(x, "p>", 1, 1, 1);
        edge.is("spelt alike", x.alike(0, 1, 0, 0, 0), 2);
        edge.is("a word and itself", x.alike(0, 0, 0, 0, 0), 2);
        edge.is("of like tails", x.alike(0, 2, 0, 0, 0), 1);
        edge.is("of unlike tails", x.alike(0, 3, 0, 0, 0), 0);
        edge.is("one without a tail", x.alike(0, 4, 0, 0, 0), 0);
        edge.is("said alike without tails", x.alike(4, 5, 0, 0, 0), 2);
        edge.is("p and pp", x.alike(6, 7, 0, 0, 0), 0);
        edge.is("nothing is left of both", x.alike(6, 7, 0, 1, 0), 2);
        edge.sentence(11, "NONE: others.");
        edge.limits("alike", Whole::some, (y, v) -> y.alike(v[0], v[1], v[2], v[3], v[4]), new int[] {1, 2, 0, 9, 1},
            WORD, WORD, HISTORY, YEAR, PLACE);
    }

    private void one() {
        edge.sentence(12, "In how many spans of YEARS (0 .. 600) two WORDS are SAID alike; the ROW: the first and "
            + "the last YEAR of each, ascending (the first 12 spans).");
        RhymedThen x = chain(400 - 5);
        edge.tells(x, "one from then on", x.one(0, 1, 0, 0), 1, 395, 600);
        edge.tells(x, "late", x.one(0, 1, 0, 5), 1, 595, 600);
        edge.tells(x, "a word and itself", x.one(0, 0, 0, 0), 1, 0, 600);
        RhymedThen y = new RhymedThen();
        Due.words(y, "a", "b", "c");
        Due.law(y, "a>b", 400, 400, 1);
        y.lag(1, 200);
        y.lag(2, 199);
        edge.tells(y, "in the last year alone", y.one(0, 1, 0, 1), 1, 600, 600);
        edge.tells(y, "in the last two years", y.one(0, 1, 0, 2), 1, 599, 600);
        edge.tells(y, "never", y.one(0, 2, 0, 1), 0);
        RhymedThen z = new RhymedThen();
        Due.words(z, "a", "b");
        Due.law(z, "a>b", 0, 0, 1);
        z.lag(1, 1);
        edge.tells(z, "from year 0 on", z.one(0, 1, 0, 0), 1, 0, 600);
        edge.tells(z, "from year 1 on", z.one(0, 1, 0, 1), 1, 1, 600);
        edge.sentence(12, "NONE: others.");
        edge.limits("one", Whole::some, (w, v) -> w.one(v[0], v[1], v[2], v[3]), new int[] {1, 2, 0, 1},
            WORD, WORD, HISTORY, PLACE);
    }

    private void rhymes() {
        edge.sentence(13, "How many other WORDS RHYME with a WORD; the ROW: they, ascending.");
        RhymedThen x = new RhymedThen();
        x.group(0, 1);
        for (int w = 0; w < 20; w++) {
            Due.word(x, w % 2 == 0 ? "a" : "ba");
        }
        edge.tells(x, "the first", x.rhymes(0, 0, 0, 0), 19, 1, 2, 3, 4, 5, 6, 7, 8, 9, 10, 11, 12, 13, 14, 15, 16, 17,
            18, 19);
        Due.law(x, "a>a", 100, 100, 1);
        edge.is("in a later year", x.rhymes(0, 0, 100, 0), 19);
        edge.tells(x, "the last", x.rhymes(19, 0, 0, 0), 19, 0, 1, 2, 3, 4, 5, 6, 7, 8, 9, 10, 11, 12, 13, 14, 15, 16,
            17, 18);
        x.group(0, 0);
        edge.tells(x, "none without tails, though said alike", x.rhymes(0, 0, 0, 0), 0);
        RhymedThen alone = new RhymedThen();
        alone.group(0, 1);
        Due.word(alone, "a");
        edge.tells(alone, "no other words", alone.rhymes(0, 0, 0, 0), 0);
        edge.sentence(13, "NONE: others.");
        edge.limits("rhymes", Whole::some, (y, v) -> y.rhymes(v[0], v[1], v[2], v[3]), new int[] {1, 0, 9, 1},
            WORD, HISTORY, YEAR, PLACE);
    }

    private static RhymedThen worded(int words) {
        RhymedThen x = new RhymedThen();
        x.group(0, 1);
        for (int w = 0; w < words; w++) {
            Due.word(x, "a");
        }
        x.fits();
        return x;
    }

    private void chance() {
        edge.sentence(14, "What share of all pairs of unlike WORDS RHYME: the ROW: the fraction; 0.");
        RhymedThen two = worded(2);
        edge.tells(two, "all of one pair", two.chance(0, 0, 0), 0, 1, 1);
        two.group(0, 0);
        edge.tells(two, "none of one pair", two.chance(0, 0, 0), 0, 0, 1);
        RhymedThen all = worded(20);
        edge.tells(all, "all of 190 pairs", all.chance(0, 0, 0), 0, 1, 1);
        RhymedThen most = worded(19);
        Due.word(most, "b");
        edge.tells(most, "171 of 190 pairs", most.chance(0, 0, 0), 0, 9, 10);
        Due.law(most, "b>a", 100, 100, 1);
        edge.tells(most, "all in a later year", most.chance(0, 100, 0), 0, 1, 1);
        edge.tells(most, "and not ahead of it", most.chance(0, 99, 0), 0, 9, 10);
        edge.sentence(14, "-2: fewer than two WORDS;");
        edge.leaves("no words", () -> worded(0), -2, x -> x.chance(0, 0, 0));
        edge.leaves("one word", () -> worded(1), -2, x -> x.chance(0, 600, 5));
        edge.sentence(14, "NONE: others.");
        edge.limits("chance", Whole::some, (x, v) -> x.chance(v[0], v[1], v[2]), new int[] {0, 9, 1},
            HISTORY, YEAR, PLACE);
        edge.limits("chance of one word", () -> worded(1), (x, v) -> x.chance(v[0], v[1], v[2]), new int[] {0, 9, 1},
            Edge.to(0, 0), YEAR, PLACE);
    }

    private void works() {
        edge.sentence(15, "WORDS of which LAW l changes what stands ahead of it, by a HISTORY in a YEAR at a PLACE "
            + "(bits; none, if it has not come there by then).");
        RhymedThen x = chain(395);
        edge.is("b>c ahead of it", x.works(1, 0, 395, 0), 0);
        edge.is("b>c in its year", x.works(1, 0, 396, 0), 3);
        edge.is("f>g, late, ahead of it", x.works(5, 0, 599, 5), 0);
        edge.is("f>g, late, in its year", x.works(5, 0, 600, 5), 3);
        edge.is("a>b", x.works(0, 0, 600, 0), 1);
        RhymedThen all = worded(20);
        Due.law(all, "a>b", 0, 0, 1);
        Due.law(all, "a>b", 0, 0, 1);
        edge.is("all words in year 0", all.works(0, 0, 0, 0), (1 << 20) - 1);
        edge.is("nothing is left for the second", all.works(1, 0, 0, 0), 0);
        RhymedThen none = worded(0);
        Due.law(none, "a>b", 0, 0, 1);
        edge.is("without words", none.works(0, 0, 0, 0), 0);
        edge.sentence(15, "NONE: others.");
        edge.limits("works", Whole::some, (y, v) -> y.works(v[0], v[1], v[2], v[3]), new int[] {1, 0, 9, 1},
            LAW, HISTORY, YEAR, PLACE);
    }
}
