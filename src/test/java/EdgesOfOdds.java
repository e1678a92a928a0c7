/** The edges of promises 28 to 32. */
final class EdgesOfOdds extends Edges {
    EdgesOfOdds(Edge edge) {
        super(edge);
    }

    @Override
    void run() {
        odds();
        oddsOfMany();
        then();
        right();
        likely();
        next();
    }

    /** One law in so many years from 10 on: a becomes b. */
    private static RhymedThen years(int many) {
        RhymedThen x = new RhymedThen();
        Due.words(x, "a", "ba", "c");
        Due.law(x, "a>b", 10, 9 + many, 1);
        return x;
    }

    private void odds() {
        edge.sentence(28, "WEIGHTS of HISTORIES by which a SIGN (ON or not) HOLDS by those of all, that SIGN itself "
            + "not counted in any: the ROW: the fraction; 0.");
        RhymedThen x = years(3);
        x.mark(3, 0, 0, 10, 0, 1);
        x.by(0, 0, 9);
        edge.tells(x, "itself not counted", x.odds(0), 0, 1, 3);
        x.turn(0, false);
        edge.tells(x, "off", x.odds(0), 0, 1, 3);
        x.mark(3, 0, 0, 9, 0, 1);
        edge.tells(x, "never", x.odds(1), 0, 0, 1);
        x.mark(3, 0, 0, 12, 0, 1);
        edge.tells(x, "always", x.odds(2), 0, 1, 1);
        x.mark(3, 0, 0, 11, 0, 1);
        x.by(3, 0, 8);
        edge.tells(x, "by another sign", x.odds(0), 0, 4, 9);
        x.turn(3, false);
        edge.tells(x, "which is off", x.odds(0), 0, 1, 3);
        RhymedThen none = new RhymedThen();
        Due.word(none, "a");
        none.mark(3, 0, 0, 0, 0, 0);
        edge.tells(none, "no laws", none.odds(0), 0, 1, 1);
    }

    private void oddsOfMany() {
        edge.sentence(28, "NONE: none such, more than 12 others ON.");
        edge.limits("odds", Whole::some, (y, v) -> y.odds(v[0]), new int[] {1}, Edge.to(0, 3));
        edge.limits("odds of 16", () -> Whole.signed(12), (y, v) -> y.odds(v[0]), new int[] {1}, Edge.to(0, 15));
        // signed(n) has the last n signs on: sign 15 is on, sign 0 off
        edge.is("12 others on, it is off", Whole.signed(12).odds(0), 0);
        edge.is("12 others on, it is on", Whole.signed(13).odds(15), 0);
        edge.refused("13 others on, it is off", () -> Whole.signed(13), y -> y.odds(0));
        edge.refused("13 others on, it is on", () -> Whole.signed(14), y -> y.odds(15));
        edge.refused("all on", () -> Whole.signed(16), y -> y.odds(15));
        RhymedThen x = years(2);
        for (int s = 0; s < 13; s++) {
            x.mark(3, 0, 0, 10, 0, 1);
            x.by(s, 0, 9);
        }
        long most = 282429536481L;
        edge.tells(x, "12 others of trust 9", x.odds(12), 0, most, most + 1);
    }

    private void then() {
        edge.sentence(29, "The likeliest way in which a WORD is SAID (the sum of WEIGHTS of HISTORIES by which it "
            + "is; of equal ones that of the first HISTORY): how many SOUNDS; the ROW: its share of all WEIGHTS as a "
            + "fraction, then its SOUNDS.");
        RhymedThen x = years(4);
        edge.tells(x, "all", x.then(0, 9, 0), 1, 1, 1, 0);
        edge.tells(x, "three of four", x.then(0, 10, 0), 1, 3, 4, 0);
        edge.tells(x, "two of four: the first", x.then(0, 11, 0), 1, 1, 2, 1);
        edge.tells(x, "three of four", x.then(0, 12, 0), 1, 3, 4, 1);
        edge.tells(x, "all", x.then(0, 13, 0), 1, 1, 1, 1);
        x.mark(3, 0, 0, 10, 0, 1);
        x.by(0, 0, 7);
        edge.tells(x, "a sum of more than one against a greater weight", x.then(0, 10, 0), 1, 9, 16, 0);
        x.by(0, 0, 8);
        edge.tells(x, "the weight of one alone", x.then(0, 10, 0), 1, 4, 7, 1);
        RhymedThen lost = new RhymedThen();
        Due.words(lost, "a", "abcdefgh");
        Due.law(lost, "a>", 1, 1, 1);
        edge.tells(lost, "nothing is left", lost.then(0, 1, 0), 0, 1, 1);
        edge.tells(lost, "eight sounds", lost.then(1, 0, 0), 8, 1, 1, 0, 1, 2, 3, 4, 5, 6, 7);
        edge.sentence(29, "NONE: others, more than 12 ON.");
        edge.limits("then", Whole::some, (y, v) -> y.then(v[0], v[1], v[2]), new int[] {1, 9, 1}, WORD, YEAR, PLACE);
        edge.is("12 on", Whole.signed(12).then(0, 0, 0), 3);
        edge.refused("13 on", () -> Whole.signed(13), y -> y.then(0, 0, 0));
        edge.refused("16 on", () -> Whole.signed(16), y -> y.then(0, 0, 0));
    }

    private void right() {
        edge.sentence(30, "How many WORDS are SAID by a HISTORY as then() says; the ROW: they as bits.");
        RhymedThen x = years(2);
        edge.tells(x, "of equal ones the first", x.right(0, 10, 0), 3, 7);
        edge.tells(x, "the other", x.right(1, 10, 0), 1, 4);
        edge.tells(x, "ahead of it", x.right(1, 9, 0), 3, 7);
        edge.tells(x, "behind it", x.right(1, 11, 0), 3, 7);
        x.mark(3, 0, 0, 10, 0, 0);
        x.by(0, 0, 6);
        edge.tells(x, "by a sign that is on", x.right(0, 10, 0), 1, 4);
        edge.tells(x, "by a sign that is on", x.right(1, 10, 0), 3, 7);
        x.turn(0, false);
        edge.tells(x, "by a sign that is off", x.right(0, 10, 0), 3, 7);
        RhymedThen none = new RhymedThen();
        edge.tells(none, "no words", none.right(0, 0, 0), 0, 0);
        RhymedThen all = new RhymedThen();
        for (int w = 0; w < 20; w++) {
            Due.word(all, "a");
        }
        Due.law(all, "a>b", 10, 11, 1);
        edge.tells(all, "20 words", all.right(0, 10, 0), 20, (1 << 20) - 1);
        edge.tells(all, "none of 20", all.right(1, 10, 0), 0, 0);
        edge.sentence(30, "NONE: others, more than 12 ON.");
        edge.limits("right", Whole::some, (y, v) -> y.right(v[0], v[1], v[2]), new int[] {0, 9, 1},
            HISTORY, YEAR, PLACE);
        edge.is("12 on", Whole.signed(12).right(0, 0, 0), 4);
        edge.refused("13 on", () -> Whole.signed(13), y -> y.right(0, 0, 0));
        edge.refused("16 on", () -> Whole.signed(16), y -> y.right(0, 0, 0));
    }

    private void likely() {
        edge.sentence(31, "The HISTORY with the greatest WEIGHT; of equal ones the first; the ROW: its share of all "
            + "as a fraction.");
        RhymedThen x = years(8);
        edge.tells(x, "of equal ones the first", x.likely(), 0, 1, 8);
        x.mark(3, 0, 0, 16, 0, 0);
        x.by(0, 0, 6);
        edge.tells(x, "the last one", x.likely(), 7, 3, 17);
        x.by(0, 0, 4);
        edge.tells(x, "of equal ones the first", x.likely(), 0, 3, 23);
        x.turn(0, false);
        x.mark(3, 0, 0, 12, 0, 0);
        x.by(1, 0, 6);
        edge.tells(x, "of equal ones the first", x.likely(), 3, 1, 7);
        RhymedThen one = new RhymedThen();
        edge.tells(one, "no laws", one.likely(), 0, 1, 1);
        edge.sentence(31, "NONE: more than 12 ON.");
        edge.is("12 on", Whole.signed(12).likely(), 0);
        edge.refused("13 on", () -> Whole.signed(13), RhymedThen::likely);
        edge.refused("16 on", () -> Whole.signed(16), RhymedThen::likely);
    }

    /** Some signs that are off: of those histories that fit (one a year from 10 on) each holds by so many. */
    private static RhymedThen offered(int many, int... holding) {
        RhymedThen x = years(many);
        for (int h : holding) {
            x.mark(3, 0, 0, 9 + h, 0, 1);
            x.turn(x.count(3) - 1, false);
        }
        return x;
    }

    private void nextIs(int many, int want, int held, int... holding) {
        RhymedThen x = offered(many, holding);
        edge.tells(x, many + " by " + java.util.Arrays.toString(holding), x.next(), want, held);
    }

    private void next() {
        edge.sentence(32, "Of the SIGNS that are not ON the one that parts the HISTORIES that FIT most evenly (how "
            + "many it HOLDS by nearest to half; of equal ones the first); the ROW: how many it HOLDS by.");
        nextIs(4, 1, 2, 1, 2, 3);
        nextIs(4, 0, 1, 1, 3);
        nextIs(4, 0, 3, 3, 1);
        nextIs(4, 1, 3, 4, 3);
        nextIs(5, 0, 2, 2, 3);
        nextIs(5, 0, 3, 3, 2);
        nextIs(5, 1, 2, 1, 2);
        nextIs(5, 1, 3, 4, 3);
        nextIs(4, 0, 4, 4, 0);
        nextIs(4, 0, 0, 0, 4);
        nextIs(8, 15, 4, 0, 8, 1, 7, 2, 6, 3, 5, 0, 8, 1, 7, 2, 6, 3, 4);
        RhymedThen x = offered(4, 2, 1, 3);
        x.turn(1, true);
        edge.tells(x, "one fits: of both that hold by it the first", x.next(), 0, 1);
        x.turn(0, true);
        edge.tells(x, "the one that is off", x.next(), 2, 1);
        edge.sentence(32, "-2: none FITS;");
        edge.leaves("none fits", () -> {
            RhymedThen y = Whole.unfit();
            y.turn(3, false);
            return y;
        }, -2, RhymedThen::next);
        edge.sentence(32, "NONE: all are ON.");
        edge.refused("all of 16 are on", () -> Whole.signed(16), RhymedThen::next);
        RhymedThen but = Whole.signed(16);
        but.turn(1, false);
        edge.tells(but, "all but one are on", but.next(), 1, 0);
        edge.refused("no signs", Due::beds, RhymedThen::next);
        edge.refused("all are on, none fits", Whole::unfit, RhymedThen::next);
    }
}
