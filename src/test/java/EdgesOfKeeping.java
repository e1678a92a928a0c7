/** The edges of promises 43 to 47. */
final class EdgesOfKeeping extends Edges {
    EdgesOfKeeping(Edge edge) {
        super(edge);
    }

    @Override
    void run() {
        keep();
        again();
        againOfSigns();
        count();
        year();
        row();
    }

    private static RhymedThen allKept() {
        RhymedThen x = Whole.some();
        for (int i = 0; i < 3; i++) {
            x.keep(i);
            x.lag(0, 50 + i);
        }
        return x;
    }

    private void keep() {
        edge.sentence(43, "SIGNS' ON, POETS and TRUST, LAGS, CLASSES are kept under a number 0 .. 2: true. Refused: "
            + "others.");
        edge.limits("keep", Whole::some, (x, v) -> Edge.yes(x.keep(v[0])), new int[] {1}, Edge.to(0, 2));
        edge.limits("keep", EdgesOfKeeping::allKept, (x, v) -> Edge.yes(x.keep(v[0])), new int[] {1}, Edge.to(0, 2));
        for (int i = 0; i < 3; i++) {
            RhymedThen x = Whole.some();
            edge.is("keep(" + i + ")", x.keep(i), true);
            for (int other = 0; other < 3; other++) {
                edge.is("kept under " + other, x.again(other), other == i || other == 1);
            }
        }
        RhymedThen empty = new RhymedThen();
        edge.is("nothing there", empty.keep(0), true);
        empty.lag(5, 7);
        empty.group(5, 7);
        edge.is("again", empty.again(0), true);
        edge.is("lag 5", empty.lag(5, 0), 0);
        edge.is("class 5", empty.group(5, 0), 0);
    }

    private void again() {
        edge.sentence(44, "They are as they were kept under a number");
        RhymedThen x = allKept();
        int[] kept = {0, 50, 51};
        for (int i = 2; i >= 0; i--) {
            edge.is("again(" + i + ")", x.again(i), true);
            edge.is("lag 0 as kept under " + i, x.lag(0, 99), kept[i]);
            edge.is("again(" + i + ") once more", x.again(i), true);
            edge.is("lag 0 as kept under " + i, x.lag(0, 99), kept[i]);
        }
        RhymedThen y = Whole.some();
        y.keep(0);
        RhymedThen untouched = Whole.some();
        untouched.keep(0);
        y.group(0, 0);
        y.group(5, 65535);
        y.lags(2, 6, 11, 11);
        for (int s = 0; s < 4; s++) {
            y.by(s, 3, 6);
            y.turn(s, s == 1);
        }
        edge.is("again(0)", y.again(0), true);
        edge.same("again", y, untouched);
        edge.sentence(44, "Refused: nothing kept.");
        edge.limits("again", EdgesOfKeeping::allKept, (z, v) -> Edge.yes(z.again(v[0])), new int[] {1}, Edge.to(0, 2));
        edge.refused("nothing under 0", Whole::some, z -> Edge.yes(z.again(0)));
        edge.refused("nothing under 2", Whole::some, z -> Edge.yes(z.again(2)));
        edge.limits("again, one kept", Whole::some, (z, v) -> Edge.yes(z.again(v[0])), new int[] {1}, Edge.to(1, 1));
        edge.refused("nothing was ever kept", Due::beds, z -> Edge.yes(z.again(1)));
    }

    private void againOfSigns() {
        edge.sentence(44, "(SIGNS told since stay as they are)");
        RhymedThen x = Whole.some();
        for (int s = 4; s < 16; s++) {
            x.mark(0, 0, 1, 120, 0, 0);
            x.by(s, 3, 8);
            x.turn(s, s % 2 == 0);
        }
        int on = x.count(4);
        x.turn(0, false);
        x.turn(1, true);
        edge.is("again(1)", x.again(1), true);
        edge.is("count(3)", x.count(3), 16);
        edge.is("on as kept, and as they are", x.count(4), on);
        edge.is("rhymes of poet 3", x.eye(3, 0), 12);
        for (int s = 0; s < 16; s++) {
            x.turn(s, s == 15);
        }
        edge.tells(x, "trust 8 of the last one", x.likely(), 1, 4, 5);
        // kept without signs: all that are told since stay
        RhymedThen none = Due.beds();
        none.keep(2);
        none.mark(0, 0, 1, 120, 0, 0);
        none.by(0, 5, 9);
        none.mark(0, 0, 1, 120, 0, 0);
        none.turn(1, false);
        edge.is("again(2)", none.again(2), true);
        edge.is("both stay", none.count(3), 2);
        edge.is("on as they are", none.count(4), 1);
        edge.is("poet 5", none.eye(5, 0), 1);
        edge.tells(none, "trust 9", none.likely(), 1, 9, 10);
        // kept with all 16 signs
        RhymedThen full = Whole.signed(3);
        full.keep(0);
        for (int s = 0; s < 16; s++) {
            full.turn(s, s < 13);
        }
        edge.is("again(0)", full.again(0), true);
        edge.is("the last three are on", full.count(4), 7 << 13);
        // words and laws are not among what is kept
        RhymedThen more = Whole.some();
        Due.word(more, "cad");
        Due.law(more, "c>b", 0, 1, 1);
        more.again(1);
        edge.is("words stay", more.count(0), 5);
        edge.is("laws stay", more.count(1), 3);
        edge.is("histories stay", more.count(2), 4);
    }

    private void count() {
        edge.sentence(45, "What 0: WORDS, 1: LAWS, 2: HISTORIES, 3: SIGNS, 4: those ON (bits), 5: numbers of the "
            + "ROW, 6: signs of THE TEXT.");
        int[] counts = {4, 2, 2, 4, 13, 2, 3};
        RhymedThen x = Whole.some();
        for (int what = 0; what < counts.length; what++) {
            edge.is("count(" + what + ")", x.count(what), counts[what]);
        }
        edge.sentence(45, "NONE for another what.");
        edge.limits("count", Whole::some, (y, v) -> y.count(v[0]), new int[] {1}, Edge.to(0, 6));
    }

    private void year() {
        edge.sentence(46, "YEAR of a LAW by a HISTORY. NONE: none such.");
        int[][] years = {{100, 50}, {100, 150}};
        for (int h = 0; h < 2; h++) {
            for (int l = 0; l < 2; l++) {
                edge.is("law " + l + " by " + h, Whole.some().year(l, h), years[h][l]);
            }
        }
        edge.limits("year", Whole::some, (y, v) -> y.year(v[0], v[1]), new int[] {1, 0}, Edge.to(0, 1), Edge.to(0, 1));
        RhymedThen full = new RhymedThen();
        for (int l = 0; l < 6; l++) {
            Due.law(full, "a>b", 400 - (l == 0 ? 0 : 1), 400, 1);
        }
        edge.is("the last law by the last history", full.year(5, 31), 400);
        edge.is("the first law by the last history", full.year(0, 31), 400);
        edge.is("no law 6", full.year(6, 31), -1);
        edge.is("no history 32", full.year(5, 32), -1);
    }

    private void row() {
        edge.sentence(47, "Number i of the ROW. NoSuchElementException: none such.");
        RhymedThen x = Whole.some();
        edge.is("the first", x.row(0), 1);
        edge.is("the last", x.row(1), 3);
        for (int i : new int[] {2, 3, -1, Integer.MIN_VALUE, Integer.MAX_VALUE}) {
            edge.is("row(" + i + ") throws", Due.throwsAt(x, i), true);
        }
        edge.same("row that throws", x, Whole.some());
        // the ROW was longer: what was told ahead of it is not seen
        RhymedThen shorter = Whole.some();
        shorter.said(0, 0, 0, 0);
        shorter.said(0, 1, 200, 0);
        edge.is("row(1)", shorter.row(1), 3);
        edge.is("row(2) throws", Due.throwsAt(shorter, 2), true);
        RhymedThen empty = Whole.unfit();
        empty.fits();
        edge.is("row(0) of an empty ROW throws", Due.throwsAt(empty, 0), true);
        // the longest ROW: all others rhyme
        RhymedThen longest = new RhymedThen();
        longest.group(0, 1);
        for (int w = 0; w < 20; w++) {
            Due.word(longest, "a");
        }
        longest.rhymes(0, 0, 0, 0);
        edge.is("row(18)", longest.row(18), 19);
        edge.is("row(19) throws", Due.throwsAt(longest, 19), true);
    }
}
