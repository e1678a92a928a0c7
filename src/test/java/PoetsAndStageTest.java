/** Promises 33 to 36. */
public final class PoetsAndStageTest {
    private static final Due due = new Due();

    public static void main(String[] args) {
        eye();
        lean();
        ahead();
        stage();
        stageIsFull();
        stageLeavesSignsOut();
        due.finish();
    }

    private static void eye() {
        due.promise(33);
        RhymedThen x = Due.beds();
        Due.word(x, "cad");
        x.mark(0, 0, 4, 0, 0, 0);
        x.mark(0, 0, 1, 120, 0, 0);
        x.mark(0, 0, 4, 120, 0, 0);
        x.mark(0, 0, 2, 0, 0, 0);
        due.is(x, "one of each", x.eye(0, 1), 4, 1, 1, 1, 1);
        due.is(x, "by 0", x.eye(0, 0), 4, 1, 0, 1, 2);
        x.turn(1, false);
        x.mark(1, 0, 1, 0, 0, 0);
        x.mark(4, 0, 1, 0, 0, 0);
        due.is(x, "off too, rhymes alone", x.eye(0, 1), 4, 1, 1, 1, 1);
        x.by(3, 5, 5);
        due.is(x, "another poet's", x.eye(0, 1), 3, 1, 1, 1, 0);
        due.is(x, "poet 5", x.eye(5, 1), 1, 0, 0, 0, 1);
        due.is(x, "poet 4", x.eye(4, 1), 0, 0, 0, 0, 0);
        due.is("no poet", x.eye(6, 0), -1);
        due.is("no poet", x.eye(-1, 0), -1);
        due.is("no history", x.eye(0, 2), -1);
    }

    private static void lean() {
        due.promise(34);
        RhymedThen x = Due.beds();
        Due.word(x, "cad");
        x.mark(0, 0, 1, 120, 0, 0);
        x.mark(0, 0, 4, 50, 0, 0);
        x.mark(0, 0, 2, 0, 0, 0);
        for (int s = 0; s < 3; s++) {
            x.by(s, 1, 5);
        }
        due.is("at least", x.lean(1, 0), 1);
        due.is("at most", x.lean(1, 1), 2);
        due.is("no rhymes, and none fits", x.lean(2, 0), -2);
        x.turn(2, false);
        due.is("no rhymes", x.lean(2, 0), 0);
        x.turn(0, false);
        due.is("on or not", x.lean(1, 1), 2);
        x.mark(2, 1, 0, 120, 0, 0);
        x.by(3, 1, 5);
        due.is("the poet's beats count", x.lean(1, 1), 1);
        x.mark(2, 1, 0, 120, 0, 7);
        due.is("there are none", x.lean(1, 0), -2);
        due.is("no poet", x.lean(6, 0), -1);
        due.is("no poet", x.lean(-1, 0), -1);
        due.is("no end", x.lean(0, 2), -1);
        due.is("no end", x.lean(0, -1), -1);
    }

    private static void ahead() {
        due.promise(35);
        RhymedThen x = Due.beds();
        due.is("without signs", x.ahead(2, 0), 0);
        due.is("without signs", x.ahead(2, 1), 200);
        x.lag(2, 55);
        x.mark(0, 0, 1, 120, 2, 0);
        due.is("least", x.ahead(2, 0), 0);
        due.is("greatest", x.ahead(2, 1), 20);
        due.is("another place", x.ahead(1, 0), -2);
        x.turn(0, false);
        x.mark(4, 0, 1, 120, 2, 0);
        due.is("least", x.ahead(2, 0), 30);
        due.is("greatest", x.ahead(2, 1), 200);
        due.is("another place", x.ahead(1, 0), 0);
        due.is("another place", x.ahead(1, 1), 200);
        due.is("the lag stays", x.lag(2, 55), 55);
        due.is("fits as it was", x.fits(), 1);
        x.turn(0, true);
        due.is("none", x.ahead(2, 1), -2);
        due.is("no place", x.ahead(6, 0), -1);
        due.is("no place", x.ahead(-1, 0), -1);
        due.is("no end", x.ahead(0, 2), -1);
        due.is("no end", x.ahead(0, -1), -1);
    }

    private static void stage() {
        due.promise(36);
        RhymedThen x = Due.beds();
        due.is(x, "no signs", x.stage(0, 0, 0, 0, 0), 0);
        x.mark(4, 0, 1, 0, 0, 0);
        x.mark(2, 2, 1, 0, 0, 0);
        due.is(x, "no rhymes, no puns", x.stage(0, 0, 0, 0, 0), 0);
        x.mark(0, 1, 0, 500, 5, 0);
        due.is(x, "bad in 120 rhymes with bed in 0", x.stage(1, 0, 0, 120, 200), 1, 0, 1, 1, 0);
        due.is(x, "years in another order", x.stage(1, 0, 120, 200, 0), 1, 0, 0, 1, 0);
        due.is(x, "never", x.stage(0, 0, 0, 0, 0), 0, 0, 0, 1, 0);
        x.lag(3, 30);
        due.is(x, "at a late place", x.stage(1, 3, 0, 120, 130), 1, 0, 2, 1, 0);
        x.mark(1, 0, 1, 0, 0, 0);
        x.mark(1, 3, 2, 0, 0, 0);
        due.is(x, "a pun more, and one that never is", x.stage(1, 0, 0, 120, 200), 2, 0, 1, 1, 0, 2, 0, 3, 0);
        x.turn(2, false);
        x.turn(4, false);
        due.is(x, "without tails a pun is one", x.stage(1, 0, 0, 0, 200), 1, 0, 2, 1, 2);
        stageByHistory();
        due.is("no history", x.stage(2, 0, 0, 0, 0), -1);
        due.is("no place", x.stage(0, 6, 0, 0, 0), -1);
        due.is("no year", x.stage(0, 0, 601, 0, 0), -1);
        due.is("no year", x.stage(0, 0, 0, -1, 0), -1);
        due.is("no year", x.stage(0, 0, 0, 0, 601), -1);
    }

    /** One law, in 10 or 20, 5 years later at place 4: each of the three years goes by the history and the place. */
    private static void stageByHistory() {
        RhymedThen x = new RhymedThen();
        Due.words(x, "a", "b");
        Due.law(x, "a>b", 10, 20, 10);
        x.lag(4, 5);
        x.mark(1, 0, 1, 0, 0, 0);
        for (int i = 0; i < 3; i++) {
            int[] years = new int[3];
            years[i] = 10;
            due.is(x, "by 0", x.stage(0, 0, years[0], years[1], years[2]), 1, 0, i, 1, 0);
            due.is(x, "by 1", x.stage(1, 0, years[0], years[1], years[2]), 0, 0, 0, 1, 0);
            due.is(x, "by 0, not yet there", x.stage(0, 4, years[0], years[1], years[2]), 0, 0, 0, 1, 0);
            years[i] = 25;
            due.is(x, "by 1 there", x.stage(1, 4, years[0], years[1], years[2]), 1, 0, i, 1, 0);
        }
    }

    private static void stageIsFull() {
        RhymedThen x = new RhymedThen();
        x.group(0, 1);
        for (int i = 0; i < 10; i++) {
            Due.word(x, "a");
        }
        x.mark(0, 9, 8, 0, 0, 0);
        x.mark(0, 7, 6, 0, 0, 0);
        x.mark(1, 5, 4, 0, 0, 0);
        x.mark(1, 3, 2, 0, 0, 0);
        x.mark(0, 1, 0, 0, 0, 0);
        x.mark(0, 3, 9, 0, 0, 0);
        due.is(x, "the seven words of least numbers, whichever signs bring them", x.stage(0, 0, 0, 0, 0), 3,
            0, 0, 1, 0, 2, 0, 3, 0, 4, 0, 5, 0, 6, 0);
        x.turn(0, false);
        due.is(x, "a sign that stays out is off", x.stage(0, 0, 0, 0, 0), 3,
            0, 0, 1, 0, 2, 0, 3, 0, 4, 0, 5, 0, 6, 0);
        x.turn(4, false);
        due.is(x, "words 0 and 1 make room for 7 and 9", x.stage(0, 0, 0, 0, 0), 4,
            2, 0, 3, 0, 4, 0, 5, 0, 6, 0, 7, 0, 9, 0);
        x.turn(0, true);
        due.is(x, "8 comes ahead of 9", x.stage(0, 0, 0, 0, 0), 3,
            2, 0, 3, 0, 4, 0, 5, 0, 6, 0, 7, 0, 8, 0);
        x.mark(4, 0, 1, 0, 0, 0);
        x.mark(2, 0, 0, 0, 0, 1);
        due.is(x, "other kinds bring no words", x.stage(0, 0, 0, 0, 0), 3,
            2, 0, 3, 0, 4, 0, 5, 0, 6, 0, 7, 0, 8, 0);
        x.mark(1, 1, 9, 0, 0, 0);
        due.is(x, "a later sign's word takes a seat, and its sign stays out", x.stage(0, 0, 0, 0, 0), 3,
            1, 0, 2, 0, 3, 0, 4, 0, 5, 0, 6, 0, 7, 0);
    }

    /** Word 7 alone would be so in another year: as it is out, the first row is told. */
    private static void stageLeavesSignsOut() {
        RhymedThen x = new RhymedThen();
        x.group(0, 1);
        for (int i = 0; i < 7; i++) {
            Due.word(x, "a");
        }
        Due.word(x, "ba");
        Due.law(x, "b>/_", 100, 100, 1);
        x.mark(1, 7, 6, 0, 0, 0);
        x.mark(1, 5, 7, 0, 0, 0);
        for (int w = 0; w < 5; w++) {
            x.mark(1, w, w + 1, 0, 0, 0);
        }
        due.is(x, "both signs of word 7 stay out", x.stage(0, 0, 0, 100, 200), 5,
            0, 0, 1, 0, 2, 0, 3, 0, 4, 0, 5, 0, 6, 0);
        x.turn(2, false);
        due.is(x, "without word 0 it is there", x.stage(0, 0, 0, 100, 200), 6,
            1, 0, 2, 0, 3, 0, 4, 0, 5, 0, 6, 0, 7, 1);
    }
}
