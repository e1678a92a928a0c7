/** Promises 43 to 47. */
public final class KeptTest {
    private static final Due due = new Due();

    public static void main(String[] args) {
        keepAndAgain();
        count();
        year();
        row();
        due.finish();
    }

    private static void keepAndAgain() {
        due.promise(43);
        RhymedThen x = Due.beds();
        due.is("nothing kept", x.again(0), false);
        x.mark(0, 0, 1, 120, 0, 0);
        x.mark(1, 0, 1, 120, 0, 0);
        x.turn(1, false);
        x.by(0, 3, 8);
        x.lag(2, 70);
        due.is("keep(2)", x.keep(2), true);
        due.is("keep(3)", x.keep(3), false);
        due.is("keep(-1)", x.keep(-1), false);
        due.promise(44);
        x.turn(0, false);
        x.turn(1, true);
        x.by(0, 1, 2);
        x.by(1, 4, 2);
        x.lag(2, 0);
        x.lag(0, 100);
        x.group(0, 0);
        x.group(5, 7);
        x.mark(2, 0, 0, 0, 0, 1);
        x.mark(2, 0, 0, 0, 0, 1);
        x.by(2, 5, 9);
        x.turn(3, false);
        due.is("again(0)", x.again(0), false);
        due.is("again(3)", x.again(3), false);
        due.is("again(-1)", x.again(-1), false);
        due.is("count(4)", x.count(4), 6);
        due.is("holds no more", x.holds(0, 1), 0);
        due.is("again(2)", x.again(2), true);
        due.is("holds as it did", x.holds(0, 1), 1);
        due.is("on: the first, and what was told since stays", x.count(4), 5);
        due.is("count(3)", x.count(3), 4);
        due.is("poet 3", x.eye(3, 0), 1);
        due.is(x, "trust 8; of the sign told since 9", x.odds(1), 0, 4, 5);
        x.turn(0, false);
        x.turn(1, true);
        due.is(x, "trust 5 of the second", x.odds(0), 0, 1, 2);
        due.is("lag(2)", x.lag(2, 70), 70);
        due.is("lag(0)", x.lag(0, 0), 0);
        due.is("group(5)", x.group(5, 0), 0);
        due.is("group(0)", x.group(0, 17), 17);
        x.keep(0);
        x.lag(2, 1);
        due.is("again(0)", x.again(0), true);
        due.is("count(4)", x.count(4), 6);
        due.is("again(2), still kept", x.again(2), true);
        due.is("count(4)", x.count(4), 5);
        x.lag(2, 9);
        x.keep(2);
        x.lag(2, 8);
        x.again(2);
        due.is("kept anew", x.lag(2, 0), 9);
        x.turn(2, false);
        x.again(0);
        due.is("what was told ahead of keeping comes back", x.count(4), 6);
    }

    private static void count() {
        due.promise(45);
        RhymedThen x = Due.beds();
        x.mark(0, 0, 1, 120, 0, 0);
        x.mark(0, 0, 1, 120, 0, 0);
        x.mark(0, 0, 1, 120, 0, 0);
        x.turn(1, false);
        x.said(0, 0, 0, 0);
        x.sign(0);
        int[] counts = {4, 2, 2, 3, 5, 3, 4};
        for (int what = 0; what < counts.length; what++) {
            due.is("count(" + what + ")", x.count(what), counts[what]);
        }
        due.is("count(7)", x.count(7), -1);
        due.is("count(-1)", x.count(-1), -1);
    }

    private static void year() {
        due.promise(46);
        RhymedThen x = new RhymedThen();
        due.is("no law", x.year(0, 0), -1);
        Due.law(x, "a>b", 10, 30, 20);
        Due.law(x, "a>b", 5, 5, 1);
        Due.law(x, "a>b", 0, 20, 10);
        int[][] years = {{10, 5, 0}, {10, 5, 10}, {10, 5, 20}, {30, 5, 0}, {30, 5, 10}, {30, 5, 20}};
        for (int h = 0; h < 6; h++) {
            for (int l = 0; l < 3; l++) {
                due.is("year(" + l + ", " + h + ")", x.year(l, h), years[h][l]);
            }
        }
        due.is("no law", x.year(3, 0), -1);
        due.is("no law", x.year(-1, 0), -1);
        due.is("no history", x.year(0, 6), -1);
        due.is("no history", x.year(0, -1), -1);
    }

    private static void row() {
        due.promise(47);
        RhymedThen x = Due.beds();
        due.is("nothing told", Due.throwsAt(x, 0), true);
        x.said(0, 0, 0, 0);
        due.is("row(0)", x.row(0), 1);
        due.is("row(2)", x.row(2), 3);
        due.is("row(3)", Due.throwsAt(x, 3), true);
        due.is("row(-1)", Due.throwsAt(x, -1), true);
        due.is("row(greatest)", Due.throwsAt(x, Integer.MAX_VALUE), true);
        due.is("row(least)", Due.throwsAt(x, Integer.MIN_VALUE), true);
        x.count(0);
        x.said(9, 0, 0, 0);
        x.alike(0, 1, 0, 0, 0);
        due.row(x, "calls that tell none, or are refused, leave it", 1, 0, 3);
    }
}
