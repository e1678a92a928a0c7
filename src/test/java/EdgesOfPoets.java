/** The edges of promises 33 to 36. */
final class EdgesOfPoets extends Edges {
    EdgesOfPoets(Edge edge) {
        super(edge);
    }

    @Override
    void run() {
        eye();
        lean();
        ahead();
        stage();
        stageOfSeven();
        stageLeavesOut();
        stageRows();
    }

    private void eye() {
        edge.sentence(33, "RHYMES (ON or not) of a POET by a HISTORY: the ROW: how many HOLD and are SPELT with like "
            + "TAILS, HOLD alone, are SPELT so alone, neither: how many in all.");
        RhymedThen x = Due.beds();
        Due.word(x, "cad");
        edge.tells(x, "no rhymes", x.eye(0, 0), 0, 0, 0, 0, 0);
        x.mark(0, 0, 4, 99, 0, 0);
        edge.tells(x, "ear and eye", x.eye(0, 1), 1, 1, 0, 0, 0);
        x.mark(0, 0, 1, 100, 0, 0);
        edge.tells(x, "ear", x.eye(0, 1), 2, 1, 1, 0, 0);
        x.mark(0, 0, 4, 100, 0, 0);
        edge.tells(x, "eye", x.eye(0, 1), 3, 1, 1, 1, 0);
        x.mark(0, 0, 2, 0, 0, 0);
        edge.tells(x, "neither", x.eye(0, 1), 4, 1, 1, 1, 1);
        x.mark(1, 0, 1, 100, 0, 0);
        x.mark(4, 0, 3, 0, 0, 0);
        edge.tells(x, "other kinds are no rhymes", x.eye(0, 1), 4, 1, 1, 1, 1);
        for (int s = 0; s < 6; s++) {
            x.turn(s, false);
        }
        edge.tells(x, "all off", x.eye(0, 1), 4, 1, 1, 1, 1);
        for (int s = 0; s < 6; s++) {
            x.by(s, 5, 5);
        }
        edge.tells(x, "none left", x.eye(0, 1), 0, 0, 0, 0, 0);
        edge.tells(x, "of the last poet", x.eye(5, 1), 4, 1, 1, 1, 1);
        RhymedThen full = Due.beds();
        for (int s = 0; s < 16; s++) {
            full.mark(0, 0, 1, 100, 0, 0);
        }
        edge.tells(full, "16 rhymes", full.eye(0, 1), 16, 0, 16, 0, 0);
        edge.sentence(33, "NONE: none such.");
        edge.limits("eye", Whole::some, (y, v) -> y.eye(v[0], v[1]), new int[] {1, 0}, POET, HISTORY);
    }

    private void lean() {
        edge.sentence(34, "How many of a POET's RHYMES (ON or not) HOLD at least (what 0), at most (1) by HISTORIES "
            + "by which all other SIGNS that are ON HOLD (SIGNS of kind 0 of this POET left aside).");
        RhymedThen x = Due.beds();
        edge.is("no rhymes", x.lean(0, 0), 0);
        edge.is("no rhymes", x.lean(0, 1), 0);
        x.mark(0, 0, 1, 120, 0, 0);
        edge.is("at least", x.lean(0, 0), 0);
        edge.is("at most", x.lean(0, 1), 1);
        x.mark(0, 0, 2, 120, 0, 0);
        edge.is("one that never holds is left aside", x.lean(0, 1), 1);
        x.turn(0, false);
        edge.is("off", x.lean(0, 1), 1);
        x.mark(3, 1, 0, 120, 0, 16 + 3);
        edge.is("the poet's book tells", x.lean(0, 1), 0);
        x.turn(2, false);
        edge.is("it is off", x.lean(0, 1), 1);
        edge.sentence(34, "-2: there are none;");
        edge.leaves("another poet's rhyme never holds", Whole::unfit, -2, y -> y.lean(3, 0));
        edge.leaves("the same", Whole::unfit, -2, y -> y.lean(3, 1));
        edge.is("the poet's own is left aside", x.lean(0, 0), 0);
        x.by(1, 1, 5);
        edge.is("another poet's is not", x.lean(0, 0), -2);
        edge.is("that poet's own is left aside", x.lean(1, 1), 0);
        edge.sentence(34, "NONE: others.");
        edge.limits("lean", Whole::some, (y, v) -> y.lean(v[0], v[1]), new int[] {1, 0}, POET, END);
        edge.limits("lean, none fits", Whole::unfit, (y, v) -> y.lean(v[0], v[1]), new int[] {1, 0}, POET, END);
    }

    /** One law, in 100: at place 2 a is said a in one year, b in another. */
    private static RhymedThen between(int aYear, int bYear) {
        RhymedThen x = new RhymedThen();
        Due.word(x, "a");
        Due.law(x, "a>b", 100, 100, 1);
        x.mark(3, 0, 0, aYear, 2, 0);
        x.mark(3, 0, 0, bYear, 2, 1);
        x.lag(2, 7);
        return x;
    }

    private void aheadIs(int aYear, int bYear, int least, int greatest) {
        RhymedThen x = between(aYear, bYear);
        edge.is("least, a in " + aYear + ", b in " + bYear, x.ahead(2, 0), least);
        edge.is("greatest, a in " + aYear + ", b in " + bYear, x.ahead(2, 1), greatest);
        edge.is("the lag is as it was", x.lag(2, 7), 7);
    }

    private void ahead() {
        edge.sentence(35, "The least (what 0), greatest (1) LAG 0, 10, 20, .., 200 of a PLACE with which some "
            + "HISTORY FITS (others as they are).");
        aheadIs(0, 600, 0, 200);
        aheadIs(99, 100, 0, 0);
        aheadIs(100, 110, 10, 10);
        aheadIs(109, 119, 10, 10);
        aheadIs(110, 119, -2, -2);
        aheadIs(101, 109, -2, -2);
        aheadIs(299, 300, 200, 200);
        aheadIs(300, 400, -2, -2);
        aheadIs(289, 299, 190, 190);
        aheadIs(289, 300, 190, 200);
        aheadIs(290, 300, 200, 200);
        aheadIs(195, 205, 100, 100);
        RhymedThen free = Due.beds();
        edge.is("no signs", free.ahead(0, 0), 0);
        edge.is("no signs", free.ahead(0, 1), 200);
        RhymedThen off = between(600, 0);
        off.turn(0, false);
        off.turn(1, false);
        edge.is("all off", off.ahead(2, 0), 0);
        edge.is("all off", off.ahead(2, 1), 200);
        edge.sentence(35, "-2: none;");
        edge.leaves("none", () -> between(110, 119), -2, x -> x.ahead(2, 0));
        edge.leaves("none", () -> between(110, 119), -2, x -> x.ahead(2, 1));
        edge.leaves("none by another place's lag", () -> between(110, 112), -2, x -> x.ahead(1, 0));
        edge.is("others as they are", between(106, 107).ahead(1, 0), 0);
        edge.sentence(35, "NONE: others.");
        edge.limits("ahead", Whole::some, (y, v) -> y.ahead(v[0], v[1]), new int[] {1, 0}, PLACE, END);
        edge.limits("ahead, none fits", Whole::unfit, (y, v) -> y.ahead(v[0], v[1]), new int[] {1, 0}, PLACE, END);
    }

    private void stage() {
        edge.sentence(36, "On a stage each WORD is SAID one way: of three YEARS told one for each (by a HISTORY, at "
            + "a PLACE).");
        RhymedThen x = new RhymedThen();
        Due.words(x, "a", "b", "c");
        Due.law(x, "a>b", 10, 10, 1);
        Due.law(x, "a>c", 400, 400, 1);
        x.lag(5, 200);
        x.mark(1, 0, 1, 0, 0, 0);
        edge.tells(x, "ahead of the law", x.stage(0, 0, 0, 9, 9), 0, 0, 0, 1, 0);
        edge.tells(x, "by the first year", x.stage(0, 0, 10, 9, 9), 1, 0, 0, 1, 0);
        edge.tells(x, "by the second year", x.stage(0, 0, 9, 10, 9), 1, 0, 1, 1, 0);
        edge.tells(x, "by the third year", x.stage(0, 0, 9, 9, 10), 1, 0, 2, 1, 0);
        edge.tells(x, "late", x.stage(0, 5, 0, 209, 600), 1, 0, 2, 1, 0);
        edge.tells(x, "not yet", x.stage(0, 5, 0, 209, 209), 0, 0, 0, 1, 0);
        x.turn(0, false);
        edge.tells(x, "no signs on", x.stage(0, 0, 0, 10, 600), 0);
        RhymedThen y = new RhymedThen();
        Due.words(y, "a", "b");
        Due.law(y, "a>c", 10, 10, 1);
        Due.law(y, "b>a", 20, 20, 1);
        y.mark(1, 0, 1, 0, 0, 0);
        edge.tells(y, "as it is spelt in none of the three", y.stage(0, 0, 10, 10, 20), 0, 0, 0, 1, 0);
        edge.tells(y, "as it is spelt in one", y.stage(0, 0, 10, 9, 20), 1, 0, 1, 1, 2);
        edge.sentence(36, "NONE: others.");
        edge.limits("stage", Whole::some, (z, v) -> z.stage(v[0], v[1], v[2], v[3], v[4]), new int[] {0, 1, 9, 9, 9},
            HISTORY, PLACE, YEAR, YEAR, YEAR);
    }

    /** So many words, each said alike; signs of words that follow one another, the last ones first. */
    private static RhymedThen crowd(int words, int kind) {
        RhymedThen x = new RhymedThen();
        x.group(0, 1);
        for (int w = 0; w < words; w++) {
            Due.word(x, "a");
        }
        for (int w = words - 1; w > 0; w--) {
            x.mark(kind, w, w - 1, 0, 0, 0);
        }
        return x;
    }

    private void stageOfSeven() {
        edge.sentence(36, "For the first 7 WORDS that RHYMES or PUNS that are ON (by numbers) have (others stay out, "
            + "with their SIGNS): the most of these SIGNS that are so then;");
        for (int kind = 0; kind < 2; kind++) {
            RhymedThen six = crowd(6, kind);
            edge.tells(six, "six words", six.stage(0, 0, 0, 0, 0), 5, 0, 0, 1, 0, 2, 0, 3, 0, 4, 0, 5, 0);
            RhymedThen seven = crowd(7, kind);
            edge.tells(seven, "seven words", seven.stage(0, 0, 0, 0, 0), 6, 0, 0, 1, 0, 2, 0, 3, 0, 4, 0, 5, 0, 6, 0);
            RhymedThen eight = crowd(8, kind);
            edge.tells(eight, "eight words", eight.stage(0, 0, 0, 0, 0), 6, 0, 0, 1, 0, 2, 0, 3, 0, 4, 0, 5, 0, 6, 0);
            eight.turn(6, false);
            edge.tells(eight, "word 0 has no sign on", eight.stage(0, 0, 0, 0, 0), 6,
                1, 0, 2, 0, 3, 0, 4, 0, 5, 0, 6, 0, 7, 0);
        }
        for (int kind = 2; kind < 5; kind++) {
            RhymedThen none = crowd(8, kind);
            edge.tells(none, "other kinds have no words there", none.stage(0, 0, 0, 0, 0), 0);
        }
        RhymedThen all = new RhymedThen();
        all.group(0, 1);
        for (int w = 0; w < 20; w++) {
            Due.word(all, "a");
        }
        for (int s = 0; s < 16; s++) {
            all.mark(s % 2, 19 - s % 7, 13, 0, 0, 0);
            all.mark(s % 2, 13, 19 - s % 7, 0, 0, 0);
        }
        edge.is("16 signs", all.count(3), 16);
        edge.tells(all, "the last seven words", all.stage(0, 0, 0, 0, 0), 16,
            13, 0, 14, 0, 15, 0, 16, 0, 17, 0, 18, 0, 19, 0);
    }

    /** Of signs that stay out none counts, whichever word of theirs is out, and though their words are there. */
    private void stageLeavesOut() {
        RhymedThen eight = new RhymedThen();
        for (int w = 0; w < 8; w++) {
            Due.word(eight, "a");
        }
        for (int w = 0; w < 7; w++) {
            eight.mark(1, w, w + 1, 0, 0, 0);
        }
        edge.is("the second word is out", eight.stage(0, 0, 0, 0, 0), 6);
        RhymedThen x = new RhymedThen();
        x.group(0, Due.bits("ae"));
        Due.words(x, "a", "a", "e");
        x.mark(1, 0, 1, 0, 0, 0);
        x.mark(1, 1, 0, 0, 0, 0);
        x.mark(4, 0, 2, 0, 0, 0);
        x.mark(0, 1, 2, 0, 0, 0);
        x.mark(2, 0, 0, 0, 0, 1);
        x.mark(3, 0, 0, 0, 0, 0);
        edge.tells(x, "rhymes and puns alone", x.stage(0, 0, 0, 0, 0), 2, 0, 0, 1, 0, 2, 0);
        x.turn(0, false);
        edge.tells(x, "one that is off", x.stage(0, 0, 0, 0, 0), 1, 0, 0, 1, 0, 2, 0);
    }

    private void stageRows() {
        edge.sentence(36, "the ROW: of each of these WORDS, ascending, it and 0, 1, 2: of equal ones the first row.");
        // word 0 is said a in 5, word 1 in 30 alone
        RhymedThen x = new RhymedThen();
        Due.words(x, "a", "d");
        Due.law(x, "a>b", 10, 10, 1);
        Due.law(x, "d>c", 5, 5, 1);
        Due.law(x, "b>e", 20, 20, 1);
        Due.law(x, "c>a", 30, 30, 1);
        x.mark(1, 1, 0, 0, 0, 0);
        edge.tells(x, "a in 5, d in 30", x.stage(0, 0, 5, 10, 30), 1, 0, 0, 1, 2);
        edge.tells(x, "a in 5, d in 30", x.stage(0, 0, 30, 10, 5), 1, 0, 2, 1, 0);
        edge.tells(x, "of equal ones the first", x.stage(0, 0, 5, 5, 30), 1, 0, 0, 1, 2);
        edge.tells(x, "of equal ones the first", x.stage(0, 0, 5, 30, 30), 1, 0, 0, 1, 1);
        edge.tells(x, "of equal ones the first", x.stage(0, 0, 30, 5, 5), 1, 0, 1, 1, 0);
        edge.tells(x, "none: the first row", x.stage(0, 0, 5, 10, 20), 0, 0, 0, 1, 0);
        // a pun of words 0 and 1 and one of 1 and 2 can't both be at first
        RhymedThen y = new RhymedThen();
        Due.words(y, "a", "a", "b");
        Due.law(y, "b>c", 10, 10, 1);
        y.mark(1, 1, 2, 0, 0, 0);
        y.mark(1, 0, 1, 0, 0, 0);
        edge.tells(y, "one of two", y.stage(0, 0, 0, 10, 20), 1, 0, 0, 1, 0, 2, 0);
        Due.law(y, "a>c", 20, 20, 1);
        edge.tells(y, "both", y.stage(0, 0, 0, 10, 20), 2, 0, 2, 1, 2, 2, 1);
    }
}
