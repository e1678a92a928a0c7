/** Promises 16 to 19. */
public final class SignsTest {
    private static final Due due = new Due();

    public static void main(String[] args) {
        mark();
        by();
        turn();
        holds();
        due.finish();
    }

    private static void mark() {
        due.promise(16);
        RhymedThen x = Due.beds();
        int[][] wrong = {{-1, 0, 1, 0, 0, 0}, {5, 0, 1, 0, 0, 0}, {0, 4, 1, 0, 0, 0}, {0, -1, 1, 0, 0, 0},
            {0, 0, 4, 0, 0, 0}, {0, 0, -1, 0, 0, 0}, {0, 1, 1, 0, 0, 0}, {1, 1, 1, 0, 0, 0}, {4, 1, 1, 0, 0, 0},
            {0, 0, 1, 601, 0, 0}, {0, 0, 1, -1, 0, 0}, {0, 0, 1, 0, 6, 0}, {0, 0, 1, 0, -1, 0},
            {2, 0, 1, 0, 0, 9}, {2, 0, 1, 0, 0, -1}, {3, 0, 1, 0, 0, 128}, {3, 0, 1, 0, 0, -1}, {2, 4, 1, 0, 0, 0},
            {3, 4, 1, 0, 0, 0}, {2, 0, 1, 601, 0, 0}, {3, 0, 1, 0, 6, 0}};
        for (int[] w : wrong) {
            due.is("mark " + java.util.Arrays.toString(w), x.mark(w[0], w[1], w[2], w[3], w[4], w[5]), -1);
        }
        due.is("count(3)", x.count(3), 0);
        due.is("rhyme", x.mark(0, 0, 1, 600, 5, -77), 0);
        due.is("pun", x.mark(1, 3, 0, 0, 0, 999), 1);
        due.is("beats", x.mark(2, 0, 99, 0, 0, 8), 2);
        due.is("beats", x.mark(2, 0, 0, 0, 0, 0), 3);
        due.is("book", x.mark(3, 0, -5, 0, 0, 127), 4);
        due.is("apart", x.mark(4, 0, 1, 0, 0, 0), 5);
        due.is("all are on at first", x.count(4), 63);
        due.is("beats of whatever second word", x.holds(2, 0), 0);
        due.is("a book of whatever second word", x.holds(4, 0), 0);
        due.is("beats of whatever second word", Due.beds().might(2, 0, Integer.MAX_VALUE, 0, 0, 1), 2);
        for (int i = 6; i < 16; i++) {
            due.is("mark " + i, x.mark(0, 0, 1, 0, 0, 0), i);
        }
        due.is("mark 16", x.mark(0, 0, 1, 0, 0, 0), -1);
        due.is("count(3)", x.count(3), 16);
        due.is("count(4)", x.count(4), 65535);
    }

    private static void by() {
        due.promise(17);
        RhymedThen x = Due.beds();
        due.is("no sign", x.by(0, 0, 5), false);
        x.mark(0, 0, 1, 120, 0, 0);
        x.mark(1, 0, 1, 120, 0, 0);
        due.is("at first trust 5", x.odds(1), 0);
        due.row(x, "at first trust 5", 1, 2);
        due.is("at first poet 0", x.eye(0, 0), 1);
        due.is("by", x.by(0, 5, 9), true);
        due.is("poet 0", x.eye(0, 0), 0);
        due.is("poet 5", x.eye(5, 0), 1);
        due.is(x, "trust 9", x.odds(1), 0, 9, 10);
        due.is("by", x.by(0, 5, 1), true);
        due.is(x, "trust 1", x.odds(1), 0, 1, 10);
        due.is("no sign", x.by(2, 0, 5), false);
        due.is("no sign", x.by(-1, 0, 5), false);
        due.is("no poet", x.by(0, 6, 5), false);
        due.is("no poet", x.by(0, -1, 5), false);
        due.is("no trust", x.by(0, 0, 0), false);
        due.is("no trust", x.by(0, 0, 10), false);
        due.is(x, "as it was", x.odds(1), 0, 1, 10);
        due.is("as it was", x.eye(5, 0), 1);
    }

    private static void turn() {
        due.promise(18);
        RhymedThen x = Due.beds();
        due.is("no sign", x.turn(0, true), false);
        x.mark(0, 0, 1, 0, 0, 0);
        x.mark(0, 0, 1, 120, 0, 0);
        due.is("off", x.turn(0, false), true);
        due.is("count(4)", x.count(4), 2);
        due.is(x, "fits", x.fits(), 1, 1);
        due.is("off again", x.turn(0, false), true);
        due.is("count(4)", x.count(4), 2);
        due.is("on", x.turn(0, true), true);
        due.is("on again", x.turn(0, true), true);
        due.is("count(4)", x.count(4), 3);
        due.is(x, "fits", x.fits(), 0);
        due.is("no sign", x.turn(2, true), false);
        due.is("no sign", x.turn(-1, true), false);
        due.is("count(4)", x.count(4), 3);
    }

    private static void holds() {
        due.promise(19);
        holdsIs(0, 0, 1, 0, 1);
        holdsIs(0, 0, 4, 0, 1);
        holdsIs(0, 0, 2, 0, 0);
        holdsIs(0, 0, 3, 0, 0);
        holdsIs(0, 3, 0, 0, 0);
        holdsIs(1, 0, 1, 0, 0);
        holdsIs(1, 0, 4, 0, 1);
        holdsIs(2, 5, 0, 3, 1);
        holdsIs(2, 5, 0, 2, 0);
        holdsIs(2, 3, 0, 0, 1);
        holdsIs(3, 0, 0, 1, 1);
        holdsIs(3, 0, 0, 16, 1);
        holdsIs(3, 0, 0, 32 + 3, 1);
        holdsIs(3, 0, 0, 32 + 4, 0);
        holdsIs(3, 0, 0, 48, 0);
        holdsIs(3, 0, 0, 127, 0);
        holdsIs(4, 0, 2, 0, 1);
        holdsIs(4, 0, 1, 0, 0);
        holdsIs(4, 0, 3, 0, 0);
        holdsIs(4, 3, 0, 0, 0);
        RhymedThen y = Due.beds();
        y.mark(0, 0, 1, 120, 0, 0);
        due.is("no sign", y.holds(1, 0), -1);
        due.is("no sign", y.holds(-1, 0), -1);
        due.is("no history", y.holds(0, 2), -1);
        due.is("no history", y.holds(0, -1), -1);
        due.is("by 0", y.holds(0, 0), 0);
        due.is("by 1", y.holds(0, 1), 1);
        y.turn(0, false);
        due.is("by 1, off", y.holds(0, 1), 1);
        y.lag(0, 21);
        due.is("by 1, late", y.holds(0, 1), 0);
        y.lags(2, 1, 20, 0);
        due.is("by 1, late", y.holds(0, 1), 1);
        y.group(0, 0);
        due.is("without vowels", y.holds(0, 1), 0);
        y.group(0, 16);
        due.is("with one", y.holds(0, 1), 1);
        Due.law(y, "e>i", 0, 300, 300);
        due.is("with another law", y.holds(0, 2), 0);
        due.is("with another law", y.holds(0, 3), 1);
    }

    private static void holdsIs(int kind, int one, int other, int number, int want) {
        RhymedThen x = new RhymedThen();
        x.group(0, Due.bits("ae"));
        Due.words(x, "bad", "cad", "bed", "bid", "bad", "aabe");
        x.mark(kind, one, other, 0, 0, number);
        due.is("holds of kind " + kind + " " + one + " " + other + " " + number, x.holds(0, 0), want);
    }
}
