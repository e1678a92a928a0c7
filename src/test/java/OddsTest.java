/** Promises 28 to 32. */
public final class OddsTest {
    private static final Due due = new Due();

    public static void main(String[] args) {
        odds();
        then();
        right();
        likely();
        next();
        due.finish();
    }

    /** One law in 10, 20 or 30: a, in 25, is said b by two histories of three. */
    private static RhymedThen three() {
        RhymedThen x = new RhymedThen();
        x.group(0, 1);
        Due.words(x, "a", "ca", "cb");
        Due.law(x, "a>b", 10, 30, 10);
        return x;
    }

    private static void signs(RhymedThen x, int n) {
        for (int i = 0; i < n; i++) {
            x.mark(2, 0, 0, 0, 0, 1);
        }
    }

    private static void odds() {
        due.promise(28);
        RhymedThen x = three();
        x.mark(3, 0, 0, 25, 0, 1);
        x.mark(3, 0, 0, 15, 0, 0);
        x.by(0, 0, 9);
        x.by(1, 0, 8);
        // by 10: holds, errs; by 20: both hold; by 30: errs, holds
        due.is(x, "the first", x.odds(0), 0, 5, 9);
        due.is(x, "the second", x.odds(1), 0, 10, 19);
        x.turn(0, false);
        due.is(x, "the first, off", x.odds(0), 0, 5, 9);
        due.is(x, "the second, alone", x.odds(1), 0, 2, 3);
        x.mark(3, 0, 0, 25, 0, 5);
        due.is(x, "never", x.odds(2), 0, 0, 1);
        x.mark(2, 1, 0, 0, 0, 1);
        due.is(x, "always", x.odds(3), 0, 1, 1);
        due.is("no sign", x.odds(4), -1);
        due.is("no sign", x.odds(-1), -1);
        RhymedThen y = three();
        signs(y, 14);
        due.is("13 others on", y.odds(0), -1);
        y.turn(13, false);
        due.is("12 others on", y.odds(0), 0);
        due.is("13 others on", y.odds(13), -1);
        y.turn(12, false);
        due.is("12 others on", y.odds(13), 0);
    }

    private static void then() {
        due.promise(29);
        RhymedThen x = three();
        due.is(x, "two of three", x.then(0, 25, 0), 1, 2, 3, 1);
        due.is(x, "all", x.then(0, 0, 0), 1, 1, 1, 0);
        x.lag(3, 10);
        due.is(x, "late", x.then(0, 25, 3), 1, 2, 3, 0);
        x.mark(3, 0, 0, 25, 0, 0);
        x.by(0, 0, 9);
        due.is(x, "one weighs more", x.then(0, 25, 0), 1, 9, 11, 0);
        RhymedThen y = Due.beds();
        due.is(y, "of equal ones the first", y.then(0, 200, 0), 3, 1, 2, 1, 4, 3);
        y.mark(0, 0, 1, 120, 0, 0);
        y.by(0, 0, 9);
        due.is(y, "the rhyme tells", y.then(0, 200, 0), 2, 9, 10, 1, 3);
        due.is("no word", y.then(4, 0, 0), -1);
        due.is("no year", y.then(0, 601, 0), -1);
        due.is("no place", y.then(0, 0, 6), -1);
        signs(y, 12);
        due.is("13 on", y.then(0, 200, 0), -1);
        due.row(y, "the ROW stays", 9, 10, 1, 3);
        y.turn(12, false);
        due.is("12 on", y.then(0, 200, 0), 2);
    }

    private static void right() {
        due.promise(30);
        RhymedThen none = new RhymedThen();
        due.is(none, "without words", none.right(0, 0, 0), 0, 0);
        RhymedThen x = Due.beds();
        due.is(x, "by 0", x.right(0, 200, 0), 4, 15);
        due.is(x, "by 1", x.right(1, 200, 0), 3, 14);
        x.lag(3, 100);
        due.is(x, "by 1, late", x.right(1, 200, 3), 3, 13);
        x.mark(0, 0, 1, 120, 0, 0);
        x.by(0, 0, 6);
        due.is(x, "by 0", x.right(0, 200, 0), 3, 14);
        due.is("no history", x.right(2, 0, 0), -1);
        due.is("no year", x.right(0, -1, 0), -1);
        due.is("no place", x.right(0, 0, 6), -1);
        signs(x, 12);
        due.is("13 on", x.right(0, 0, 0), -1);
        x.turn(1, false);
        due.is("12 on", x.right(0, 0, 0), 4);
    }

    private static void likely() {
        due.promise(31);
        RhymedThen x = three();
        due.is(x, "of equal ones the first", x.likely(), 0, 1, 3);
        x.mark(3, 0, 0, 25, 0, 0);
        x.by(0, 0, 7);
        due.is(x, "the last", x.likely(), 2, 7, 13);
        x.by(0, 0, 3);
        due.is(x, "the first", x.likely(), 0, 7, 17);
        signs(x, 12);
        due.is("13 on", x.likely(), -1);
        x.turn(5, false);
        due.is("12 on", x.likely(), 0);
        for (int s = 0; s < 13; s++) {
            x.by(s, 0, 9);
        }
        due.is(x, "9 to the 12th", x.likely(), 2, 9, 11);
    }

    private static void next() {
        due.promise(32);
        RhymedThen x = Due.beds();
        due.is("no signs", x.next(), -1);
        x.mark(3, 2, 0, 0, 0, 1);
        due.is("all are on", x.next(), -1);
        x.mark(0, 0, 1, 120, 0, 0);
        x.mark(1, 0, 1, 120, 0, 0);
        x.turn(0, false);
        x.turn(1, false);
        x.turn(2, false);
        due.is(x, "half", x.next(), 1, 1);
        x.turn(1, true);
        due.is(x, "one history is left", x.next(), 0, 1);
        x.mark(0, 0, 1, 0, 0, 0);
        due.is("none fits", x.next(), -2);
        x.turn(0, true);
        x.turn(2, true);
        due.is("all are on, none fits", x.next(), -1);
        RhymedThen y = three();
        y.mark(3, 0, 0, 25, 0, 5);
        y.mark(3, 0, 0, 25, 0, 1);
        y.mark(3, 0, 0, 25, 0, 0);
        y.turn(0, false);
        y.turn(1, false);
        y.turn(2, false);
        due.is(y, "two of three are as near to half as one", y.next(), 1, 2);
    }
}
