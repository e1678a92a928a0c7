/** Promises 20 to 27. */
public final class HistoriesTest {
    private static final Due due = new Due();

    public static void main(String[] args) {
        fits();
        span();
        order();
        wrongAndBlunder();
        sure();
        shows();
        least();
        due.finish();
    }

    /** Of three signs in 120 the first holds by history 1 alone, the others by history 0 alone. */
    private static RhymedThen doubted() {
        RhymedThen x = Due.beds();
        x.mark(0, 0, 1, 120, 0, 0);
        x.mark(3, 1, 0, 120, 0, 16 + 3);
        x.mark(2, 1, 0, 120, 0, 0);
        return x;
    }

    private static void fits() {
        due.promise(20);
        due.is("without laws", new RhymedThen().fits(), 1);
        RhymedThen x = Due.beds();
        due.is(x, "without signs", x.fits(), 2, 0);
        x.mark(0, 0, 1, 120, 0, 0);
        due.is(x, "one", x.fits(), 1, 1);
        x.mark(0, 0, 1, 0, 0, 0);
        due.is(x, "none", x.fits(), 0);
        x.turn(1, false);
        due.is(x, "one again", x.fits(), 1, 1);
        x.lag(0, 100);
        due.is(x, "none so late", x.fits(), 0);
    }

    private static void span() {
        due.promise(21);
        RhymedThen x = Due.beds();
        due.is("earliest", x.span(1, 0), 50);
        due.is("latest", x.span(1, 1), 150);
        x.mark(0, 0, 1, 120, 0, 0);
        due.is("earliest", x.span(1, 0), 150);
        due.is("latest", x.span(1, 1), 150);
        due.is("earliest", x.span(0, 0), 100);
        due.is("no law", x.span(2, 0), -1);
        due.is("no law", x.span(-1, 0), -1);
        due.is("no end", x.span(0, 2), -1);
        due.is("no end", x.span(0, -1), -1);
        x.mark(0, 0, 1, 0, 0, 0);
        due.is("none fits", x.span(0, 0), -2);
        due.is("no law comes first", x.span(2, 0), -1);
    }

    private static void order() {
        due.promise(22);
        RhymedThen x = Due.beds();
        due.is("either", x.order(0, 1), 0);
        due.is("either", x.order(1, 0), 0);
        x.mark(0, 0, 1, 120, 0, 0);
        due.is("ahead", x.order(0, 1), 1);
        due.is("behind", x.order(1, 0), 2);
        due.is("one law", x.order(0, 0), -1);
        due.is("no law", x.order(0, 2), -1);
        due.is("no law", x.order(-1, 0), -1);
        x.mark(0, 0, 1, 0, 0, 0);
        due.is("none fits", x.order(0, 1), -2);
        RhymedThen y = new RhymedThen();
        Due.law(y, "a>b", 9, 9, 1);
        Due.law(y, "a>b", 9, 10, 1);
        Due.law(y, "a>b", 8, 9, 1);
        due.is("equal years go by numbers", y.order(0, 1), 1);
        due.is("equal years go by numbers", y.order(1, 0), 2);
        due.is("equal years or earlier", y.order(0, 2), 0);
    }

    private static void wrongAndBlunder() {
        due.promise(23);
        RhymedThen x = doubted();
        due.is(x, "wrong", x.wrong(), 1, 0, 1);
        x.turn(2, false);
        due.is(x, "of equal ones the first", x.wrong(), 1, 0, 1);
        x.turn(0, false);
        x.turn(1, false);
        x.turn(2, true);
        x.mark(0, 0, 1, 0, 0, 0);
        due.is(x, "a sign that never holds", x.wrong(), 1, 0, 8);
        x.turn(2, false);
        x.turn(3, false);
        x.turn(0, true);
        due.is(x, "none wrong", x.wrong(), 0, 1, 0);
        due.promise(24);
        due.is("some fits", x.blunder(), 0);
        RhymedThen y = doubted();
        due.is("the first alone", y.blunder(), 1);
        y.turn(2, false);
        due.is("either", y.blunder(), 3);
        y.turn(2, true);
        y.mark(0, 0, 1, 0, 0, 0);
        due.is("two err at least", y.blunder(), 0);
        due.is("without signs", Due.beds().blunder(), 0);
    }

    private static void sure() {
        due.promise(25);
        RhymedThen x = Due.beds();
        due.is(x, "bad in 200", x.sure(0, 200, 0), 2, 2, 3);
        due.is(x, "bad in 100", x.sure(0, 100, 0), 1, 3, 3);
        due.is(x, "bed in 100", x.sure(1, 100, 0), 2, 2, 3);
        x.lag(4, 60);
        due.is(x, "bed in 100, late", x.sure(1, 100, 4), 1, 3, 3);
        x.mark(0, 0, 1, 120, 0, 0);
        due.is(x, "bad in 200", x.sure(0, 200, 0), 1, 2, 2);
        due.is("no word", x.sure(4, 0, 0), -1);
        due.is("no year", x.sure(0, 601, 0), -1);
        due.is("no place", x.sure(0, 0, 6), -1);
        x.mark(0, 0, 1, 0, 0, 0);
        due.is(x, "none fits, the ROW stays", x.sure(0, 200, 0), -2, 2, 2);
    }

    private static void shows() {
        due.promise(26);
        RhymedThen x = doubted();
        due.is("a>e by 1", x.shows(0, 1), 1);
        due.is("e> by 1", x.shows(1, 1), 0);
        due.is("e> by 0", x.shows(1, 0), 6);
        due.is("a>e by 0", x.shows(0, 0), 0);
        x.turn(1, false);
        due.is("one is off", x.shows(1, 0), 4);
        // by 1 b is still b in 30, with the last law and without it
        RhymedThen y = new RhymedThen();
        Due.word(y, "a");
        Due.law(y, "a>b", 10, 10, 1);
        Due.law(y, "b>c", 20, 40, 20);
        Due.law(y, "e>f", 50, 50, 1);
        y.mark(3, 0, 0, 30, 0, 1);
        due.is("a>b by 1", y.shows(0, 1), 1);
        due.is("e>f by 1", y.shows(2, 1), 0);
        due.is("no law", x.shows(2, 0), -1);
        due.is("no law", x.shows(-1, 0), -1);
        due.is("no history", x.shows(0, 2), -1);
    }

    private static void least() {
        due.promise(27);
        RhymedThen none = new RhymedThen();
        due.is(none, "without laws", none.least(), 0, 0, 0);
        RhymedThen x = Due.beds();
        due.is(x, "without signs", x.least(), 0, 0, 0);
        x.mark(0, 0, 1, 120, 0, 0);
        due.is(x, "a>e alone", x.least(), 1, 1, 0);
        x.mark(2, 1, 0, 200, 0, 0);
        due.is(x, "both", x.least(), 2, 3, 1);
        x.turn(0, false);
        due.is(x, "e> alone", x.least(), 1, 2, 0);
        x.turn(0, true);
        x.mark(0, 0, 1, 0, 0, 0);
        due.is(x, "none, the ROW stays", x.least(), -2, 2, 0);
        // a, c become b: by either law d and f do; of sets as small the one of least bits
        RhymedThen y = new RhymedThen();
        Due.words(y, "a", "c");
        Due.law(y, "c>a", 0, 2, 1);
        Due.law(y, "a>c", 10, 30, 10);
        y.mark(1, 0, 1, 25, 0, 0);
        due.is(y, "of equal ones the least bits", y.least(), 1, 1, 0);
        y.mark(3, 0, 0, 15, 0, 0);
        y.mark(3, 0, 0, 25, 0, 2);
        due.is(y, "the later law in 20", y.least(), 1, 2, 1);
        // the law that never comes counts in the history's number with its first year
        RhymedThen z = new RhymedThen();
        Due.words(z, "a");
        Due.law(z, "a>b", 10, 20, 10);
        Due.law(z, "b>c", 30, 32, 1);
        z.mark(3, 0, 0, 15, 0, 0);
        z.mark(3, 0, 0, 40, 0, 1);
        due.is(z, "a>b in 20, b>c never", z.least(), 1, 1, 3);
    }
}
