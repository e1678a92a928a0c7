import java.util.function.Supplier;

/** The edges of promises 16 to 19, and of 37, which asks for signs as mark() does. */
final class EdgesOfSigns extends Edges {
    // words, year, place and number that fit all kinds
    private static final int[] FINE = {1, 2, 9, 1, 0};

    EdgesOfSigns(Edge edge) {
        super(edge);
    }

    @Override
    void run() {
        mark();
        by();
        turn();
        holds();
        might();
    }

    /** Each argument of a sign, kind by kind, as mark() and might() refuse them. */
    private void signArguments(String name, Supplier<RhymedThen> made, Edge.Asked asked) {
        for (int kind : new int[] {0, 1, 4}) {
            edge.limits(name + " of kind " + kind, made, (x, v) -> asked.of(x, sixOf(kind, v)), FINE,
                WORD, WORD, YEAR, PLACE, Edge.WHATEVER);
            edge.refused(name + " of one word twice", made, x -> asked.of(x, new int[] {kind, 1, 1, 9, 1, 0}));
        }
        for (int kind : new int[] {2, 3}) {
            edge.limits(name + " of kind " + kind, made, (x, v) -> asked.of(x, sixOf(kind, v)), FINE,
                WORD, Edge.WHATEVER, YEAR, PLACE, Edge.to(0, kind == 2 ? 8 : 127));
            edge.is("one word twice, of kind " + kind,
                asked.of(made.get(), new int[] {kind, 1, 1, 9, 1, 0}) != RhymedThen.NONE, true);
        }
        edge.limits(name, made, (x, v) -> asked.of(x, sixOf(v[0], FINE)), new int[] {0}, Edge.to(0, 4));
    }

    private static int[] sixOf(int kind, int[] v) {
        return new int[] {kind, v[0], v[1], v[2], v[3], v[4]};
    }

    private void mark() {
        edge.sentence(16, "A SIGN: its number.");
        RhymedThen x = Whole.some();
        edge.is("the fifth", x.mark(0, 0, 1, 0, 0, 0), 4);
        edge.is("it is on", x.count(4), 16 + 8 + 4 + 1);
        edge.sentence(16, "Refused: others (of kinds 0, 1, 4 two unlike WORDS; of 2, 3 the second word does not "
            + "matter; number of 2: 0 .. 8, of 3: 0 .. 127, of others whatever), 16.");
        signArguments("mark", Whole::some, (y, v) -> y.mark(v[0], v[1], v[2], v[3], v[4], v[5]));
        RhymedThen near = Whole.some();
        for (int s = 4; s < 16; s++) {
            edge.is("sign " + s, near.mark(2, 2, 0, 0, 0, 0), s);
        }
        edge.is("sign 16", near.mark(2, 2, 0, 0, 0, 0), -1);
        for (int kind = 0; kind < 5; kind++) {
            int k = kind;
            edge.refused("sign 16 of kind " + k, () -> Whole.signed(8), y -> y.mark(k, 0, 1, 0, 0, 0));
        }
        // a second word that does not matter is not looked up
        RhymedThen alone = new RhymedThen();
        alone.group(0, 1);
        Due.word(alone, "a");
        edge.is("beats", alone.mark(2, 0, Integer.MAX_VALUE, 0, 0, 1), 0);
        edge.is("book", alone.mark(3, 0, Integer.MIN_VALUE, 0, 0, 0), 1);
        edge.is("beats hold", alone.holds(0, 0), 1);
        edge.is("the book holds", alone.holds(1, 0), 1);
        edge.is("no second word for a pun", alone.mark(1, 0, 1, 0, 0, 0), -1);
    }

    private void by() {
        edge.sentence(17, "A SIGN's POET and TRUST (at first 0, 5) become these: true.");
        RhymedThen x = Due.beds();
        x.mark(0, 0, 1, 120, 0, 0);
        edge.tells(x, "at first poet 0", x.eye(0, 1), 1, 0, 1, 0, 0);
        edge.tells(x, "at first trust 5", x.likely(), 0, 1, 2);
        for (int poet = 0; poet < 6; poet++) {
            edge.is("by", x.by(0, poet, 4), true);
            for (int other = 0; other < 6; other++) {
                edge.is("rhymes of poet " + other, x.eye(other, 1), other == poet ? 1 : 0);
            }
        }
        int[][] shares = {{9, 10}, {4, 5}, {7, 10}, {3, 5}, {1, 2}, {3, 5}, {7, 10}, {4, 5}, {9, 10}};
        for (int trust = 1; trust <= 9; trust++) {
            edge.is("by", x.by(0, 0, trust), true);
            edge.tells(x, "trust " + trust, x.likely(), trust > 5 ? 1 : 0, shares[trust - 1][0], shares[trust - 1][1]);
        }
        edge.sentence(17, "Refused: others.");
        edge.limits("by", Whole::some, (y, v) -> Edge.yes(y.by(v[0], v[1], v[2])), new int[] {1, 1, 7},
            Edge.to(0, 3), Edge.to(0, 5), Edge.to(1, 9));
        edge.limits("by of 16", () -> Whole.signed(8), (y, v) -> Edge.yes(y.by(v[0], 1, 7)), new int[] {1},
            Edge.to(0, 15));
    }

    private void turn() {
        edge.sentence(18, "A SIGN is ON, or not: true.");
        RhymedThen x = Whole.signed(16);
        for (int s = 0; s < 16; s++) {
            edge.is("off", x.turn(s, false), true);
            edge.is("it is off", x.count(4), 65535 & ~(1 << s));
            edge.is("off again", x.turn(s, false), true);
            edge.is("it is off", x.count(4), 65535 & ~(1 << s));
            edge.is("on", x.turn(s, true), true);
            edge.is("on again", x.turn(s, true), true);
            edge.is("it is on", x.count(4), 65535);
        }
        edge.sentence(18, "Refused: none such.");
        for (boolean on : new boolean[] {true, false}) {
            edge.limits("turn " + on, Whole::some, (y, v) -> Edge.yes(y.turn(v[0], on)), new int[] {1}, Edge.to(0, 3));
            edge.limits("turn " + on, () -> Whole.signed(8), (y, v) -> Edge.yes(y.turn(v[0], on)), new int[] {1},
                Edge.to(0, 15));
        }
    }

    private void holds() {
        edge.sentence(19, "Whether a SIGN HOLDS by a HISTORY: 1, 0.");
        RhymedThen x = Whole.some();
        int[][] held = {{0, 1}, {1, 0}, {0, 1}, {1, 1}};
        for (int s = 0; s < 4; s++) {
            edge.is("sign " + s + " by 0", x.holds(s, 0), held[s][0]);
            edge.is("sign " + s + " by 1", x.holds(s, 1), held[s][1]);
        }
        // in its own year a law has come, at the sign's place
        RhymedThen y = new RhymedThen();
        Due.word(y, "a");
        Due.law(y, "a>b", 100, 101, 1);
        y.mark(3, 0, 0, 100, 3, 1);
        y.mark(3, 0, 0, 100, 3, 0);
        edge.is("in its year", y.holds(0, 0), 1);
        edge.is("in its year", y.holds(1, 0), 0);
        edge.is("a year ahead of it", y.holds(0, 1), 0);
        edge.is("a year ahead of it", y.holds(1, 1), 1);
        y.lag(3, 1);
        edge.is("late", y.holds(0, 0), 0);
        y.lag(3, 0);
        y.lag(2, 1);
        edge.is("late at another place", y.holds(0, 0), 1);
        holdsAsItIsNow();
        edge.sentence(19, "NONE: none such.");
        edge.limits("holds", Whole::some, (z, v) -> z.holds(v[0], v[1]), new int[] {1, 0},
            Edge.to(0, 3), Edge.to(0, 1));
        edge.limits("holds of 16", () -> Whole.signed(8), (z, v) -> z.holds(v[0], v[1]), new int[] {1, 0},
            Edge.to(0, 15), Edge.to(0, 1));
    }

    /** What has been asked once is asked anew when classes, lags or laws are others. */
    private void holdsAsItIsNow() {
        RhymedThen x = Whole.some();
        edge.is("at first", x.holds(0, 1), 1);
        x.keep(0);
        x.group(0, 0);
        edge.is("without class A", x.holds(0, 1), 0);
        x.group(0, Due.bits("e"));
        edge.is("with another one", x.holds(0, 1), 1);
        x.lag(0, 21);
        edge.is("a lag too late", x.holds(0, 1), 0);
        x.lag(0, 20);
        edge.is("a lag just in time", x.holds(0, 1), 1);
        x.lags(2, 1, 21, 0);
        edge.is("lags too late", x.holds(0, 1), 0);
        x.again(0);
        edge.is("as it was kept", x.holds(0, 1), 1);
        x.lags(3, 0, 0, 0);
        edge.is("no lags", x.holds(0, 1), 1);
        Due.law(x, "d>c/b_", 120, 121, 1);
        edge.is("another law that does nothing to it", x.holds(0, 3), 1);
        edge.is("another law by history 1", x.holds(1, 1), 1);
        edge.is("another law by history 0", x.holds(1, 0), 0);
    }

    private void might() {
        edge.sentence(37, "How many HISTORIES FIT, if besides what is ON a SIGN that might be found (as for mark()) "
            + "held, and how many, if it did not: the ROW: both; their sum.");
        RhymedThen x = Whole.some();
        edge.tells(x, "it holds by the one that fits", x.might(1, 0, 1, 120, 0, 0), 1, 1, 0);
        edge.tells(x, "it does not", x.might(1, 0, 1, 99, 0, 0), 1, 0, 1);
        edge.is("it is not told", x.count(3), 4);
        RhymedThen unfit = Whole.unfit();
        edge.tells(unfit, "none fits", unfit.might(1, 0, 1, 120, 0, 0), 0, 0, 0);
        RhymedThen free = Due.beds();
        edge.tells(free, "without signs", free.might(1, 0, 1, 120, 0, 0), 2, 1, 1);
        edge.sentence(37, "NONE: as mark(), but 16.");
        signArguments("might", Whole::some, (y, v) -> y.might(v[0], v[1], v[2], v[3], v[4], v[5]));
        RhymedThen full = Whole.signed(12);
        edge.tells(full, "with 16 signs", full.might(1, 0, 1, 120, 0, 0), 2, 1, 1);
        signArguments("might with 16 signs", () -> Whole.signed(12),
            (y, v) -> y.might(v[0], v[1], v[2], v[3], v[4], v[5]));
    }
}
