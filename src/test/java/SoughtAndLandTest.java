/** Promises 37 to 42. */
public final class SoughtAndLandTest {
    private static final Due due = new Due();

    public static void main(String[] args) {
        might();
        look();
        settled();
        fell();
        town();
        swap();
        due.finish();
    }

    private static void might() {
        due.promise(37);
        RhymedThen x = Due.beds();
        due.is(x, "a pun", x.might(1, 0, 1, 120, 0, 0), 2, 1, 1);
        due.is(x, "beats", x.might(2, 0, 99, 0, 0, 1), 2, 2, 0);
        due.is(x, "a book", x.might(3, 0, 99, 0, 0, 1), 2, 2, 0);
        due.is(x, "apart", x.might(4, 0, 1, 120, 0, 0), 2, 0, 2);
        due.is("it is not told", x.count(3), 0);
        x.lag(1, 100);
        due.is(x, "a pun, late", x.might(1, 0, 1, 120, 1, 0), 2, 0, 2);
        int[][] wrong = {{5, 0, 1, 0, 0, 0}, {-1, 0, 1, 0, 0, 0}, {0, 4, 1, 0, 0, 0}, {0, 0, 4, 0, 0, 0},
            {1, 1, 1, 0, 0, 0}, {0, 0, 1, 601, 0, 0}, {0, 0, 1, 0, 6, 0}, {2, 0, 1, 0, 0, 9}, {3, 0, 1, 0, 0, 128}};
        for (int[] w : wrong) {
            due.is("might " + java.util.Arrays.toString(w), x.might(w[0], w[1], w[2], w[3], w[4], w[5]), -1);
        }
        for (int i = 0; i < 16; i++) {
            x.mark(0, 0, 1, 120, 0, 0);
        }
        due.is(x, "with 16 signs", x.might(1, 0, 1, 120, 0, 0), 1, 1, 0);
        x.lag(0, 100);
        due.is(x, "none fits", x.might(1, 0, 1, 120, 0, 0), 0, 0, 0);
    }

    private static void look() {
        due.promise(38);
        RhymedThen x = new RhymedThen();
        due.is("no words", x.look(0, 0), -1);
        x.group(0, Due.bits("ae"));
        Due.words(x, "ic");
        due.is("one word", x.look(0, 0), -1);
        Due.words(x, "bad");
        due.is(x, "two words", x.look(0, 0), 0, 0, 1);
        Due.words(x, "bed");
        Due.law(x, "a>e/b_", 100, 100, 1);
        Due.law(x, "e>/_d", 50, 150, 100);
        due.is(x, "half", x.look(120, 0), 1, 1, 2);
        due.is(x, "of equal ones the first", x.look(0, 0), 0, 0, 1);
        x.lag(5, 30);
        due.is(x, "late", x.look(120, 5), 0, 0, 1);
        due.is("no year", x.look(601, 0), -1);
        due.is("no year", x.look(-1, 0), -1);
        due.is("no place", x.look(0, 6), -1);
        x.mark(4, 1, 2, 0, 0, 0);
        due.is(x, "a sign that holds by both", x.look(120, 0), 1, 1, 2);
        x.mark(0, 1, 2, 120, 0, 0);
        due.is(x, "one history is left", x.look(120, 0), 0, 0, 1);
        x.mark(0, 0, 1, 0, 0, 0);
        due.is(x, "none fits, the ROW stays", x.look(120, 0), -2, 0, 1);
    }

    private static void settled() {
        due.promise(39);
        RhymedThen x = Due.beds();
        x.lag(1, 5);
        due.is("bad", x.settled(0, 0), -2);
        due.is("bed", x.settled(1, 0), 150);
        due.is("bed, late", x.settled(1, 1), 160);
        due.is("bid", x.settled(2, 0), 0);
        x.mark(0, 0, 1, 120, 0, 0);
        due.is("each year for itself", x.settled(0, 0), 0);
        due.is("no word", x.settled(4, 0), -1);
        due.is("no word", x.settled(-1, 0), -1);
        due.is("no place", x.settled(0, 6), -1);
        x.mark(0, 0, 1, 0, 0, 0);
        due.is("none fits", x.settled(0, 0), -2);
        RhymedThen first = Due.beds();
        first.mark(2, 1, 0, 120, 0, 0);
        due.is("by the first history alone", first.settled(0, 0), 0);
        RhymedThen y = new RhymedThen();
        Due.words(y, "a");
        Due.law(y, "a>b", 390, 400, 10);
        y.lag(2, 200);
        due.is("in the last year", y.settled(0, 2), 600);
    }

    private static void fell() {
        due.promise(40);
        RhymedThen none = Due.beds();
        RhymedThen x = new RhymedThen();
        due.is("no words", x.fell(0, 0, 0), 0);
        x.fits();
        due.is(x, "no words, the ROW stays", x.fell(0, 0, 0), 0, 0);
        due.is("no words, no history", x.fell(1, 0, 0), -1);
        Due.word(x, "a");
        due.is(x, "one word", x.fell(0, 0, 0), 1, 1);
        due.is(none, "alone", none.fell(1, 0, 0), 1, 1);
        due.is(none, "bad, bed", none.fell(1, 120, 0), 2, 3);
        Due.words(none, "dab", "dab");
        due.is(none, "three", none.fell(1, 120, 0), 3, 8 + 16 + 32);
        Due.words(none, "bed");
        due.is(none, "of as many that of the least word", none.fell(1, 120, 0), 3, 1 + 2 + 64);
        due.is("no history", none.fell(2, 0, 0), -1);
        due.is("no year", none.fell(0, 601, 0), -1);
        due.is("no place", none.fell(0, 0, 6), -1);
    }

    private static void town() {
        due.promise(41);
        RhymedThen x = Due.beds();
        due.is(x, "all at once", x.town(0, 1, 120, 3), 100, 0);
        x.lag(1, 20);
        x.lag(4, 20);
        due.is(x, "the first of the late ones", x.town(0, 1, 120, 0), 120, 1);
        x.lag(2, 200);
        due.is(x, "late", x.town(0, 1, 200, 0), 350, 2);
        due.is(x, "bed by 0", x.town(1, 0, 200, 0), 250, 2);
        due.is(x, "bid", x.town(2, 0, 200, 0), 0, 0);
        due.is(x, "as it is spelt", x.town(0, 1, 200, 2), 0, 0);
        due.is("no word", x.town(4, 0, 0, 0), -1);
        due.is("no history", x.town(0, 2, 0, 0), -1);
        due.is("no year", x.town(0, 0, 601, 0), -1);
        due.is("no place", x.town(0, 0, 0, 6), -1);
        RhymedThen y = new RhymedThen();
        Due.words(y, "a");
        Due.law(y, "a>b", 0, 0, 1);
        y.lag(3, 10);
        due.is(y, "behind", y.town(0, 0, 0, 0), 10, 3);
        due.is(y, "elsewhere it never is, the ROW stays", y.town(0, 0, 9, 3), -2, 3);
        Due.law(y, "b>c", 1, 1, 1);
        due.is(y, "for one year", y.town(0, 0, 0, 0), 10, 3);
    }

    private static void swap() {
        due.promise(42);
        RhymedThen x = Due.beds();
        x.lag(1, 10);
        due.is("bad", x.swap(0, 1, 1, 150, 0), 1);
        due.is("bad", x.swap(1, 0, 0, 100, 0), 1);
        due.is("one has not come", x.swap(0, 1, 1, 149, 0), -1);
        due.is("one has not come there", x.swap(0, 1, 1, 150, 1), -1);
        due.is("both have come there", x.swap(0, 1, 1, 160, 1), 1);
        due.is("one law twice", x.swap(0, 0, 1, 200, 0), -1);
        due.is("no law", x.swap(0, 2, 1, 200, 0), -1);
        due.is("no law", x.swap(-1, 0, 1, 200, 0), -1);
        due.is("no history", x.swap(0, 1, 2, 200, 0), -1);
        due.is("no year", x.swap(0, 1, 1, 601, 0), -1);
        due.is("no place", x.swap(0, 1, 1, 200, 6), -1);
        // a>b, c>d, b>c: the outer two change places round the one between
        RhymedThen y = new RhymedThen();
        Due.words(y, "a", "b", "c");
        Due.law(y, "a>b", 10, 10, 1);
        Due.law(y, "c>d", 20, 20, 1);
        Due.law(y, "b>c", 30, 30, 1);
        // a: c, but b; b: c, but d; c: d either way
        due.is("all else in order", y.swap(0, 2, 0, 30, 0), 3);
        // by history 1 the third law has not come yet: a: c, but b; b: c either way
        RhymedThen z = new RhymedThen();
        Due.words(z, "a", "b");
        Due.law(z, "a>b", 10, 10, 1);
        Due.law(z, "b>c", 20, 20, 1);
        Due.law(z, "c>d", 25, 100, 75);
        due.is("a third law that comes later", z.swap(0, 1, 1, 30, 0), 1);
    }
}
