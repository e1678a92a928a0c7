/** Promises 9 to 15. */
public final class SaidTest {
    private static final Due due = new Due();

    public static void main(String[] args) {
        said();
        order();
        changes();
        alike();
        one();
        rhymes();
        chance();
        works();
        due.finish();
    }

    private static void said() {
        due.promise(9);
        RhymedThen x = Due.beds();
        due.is(x, "bad in 99", x.said(0, 1, 99, 0), 3, 1, 0, 3);
        due.is(x, "bad in 100", x.said(0, 1, 100, 0), 3, 1, 4, 3);
        due.is(x, "bad in 150", x.said(0, 1, 150, 0), 2, 1, 3);
        due.is(x, "bad in 600 by 0", x.said(0, 0, 600, 0), 3, 1, 4, 3);
        due.is("no word", x.said(4, 0, 0, 0), -1);
        due.is("no word", x.said(-1, 0, 0, 0), -1);
        due.is("no history", x.said(0, 2, 0, 0), -1);
        due.is("no history", x.said(0, -1, 0, 0), -1);
        due.is("no year", x.said(0, 0, 601, 0), -1);
        due.is("no year", x.said(0, 0, -1, 0), -1);
        due.is("no place", x.said(0, 0, 0, 6), -1);
        due.is("no place", x.said(0, 0, 0, -1), -1);
        due.row(x, "the ROW stays", 1, 4, 3);
        Due.word(x, "e");
        Due.law(x, "e>", 0, 0, 1);
        due.is(x, "nothing is left", x.said(4, 0, 0, 0), 0);
    }

    private static void order() {
        // of equal years by numbers: a > b > c in one year
        RhymedThen x = new RhymedThen();
        Due.words(x, "a", "b");
        Due.law(x, "a>b", 10, 10, 1);
        Due.law(x, "b>c", 5, 15, 5);
        due.is("b>c first", last(x, 0, 0), 1);
        due.is("in one year", last(x, 0, 1), 2);
        due.is("a>b first", last(x, 0, 2), 2);
        RhymedThen y = new RhymedThen();
        Due.words(y, "a");
        Due.law(y, "b>c", 10, 10, 1);
        Due.law(y, "a>b", 5, 15, 5);
        due.is("a>b first", last(y, 0, 0), 2);
        due.is("in one year", last(y, 0, 1), 1);
        due.is("b>c first", last(y, 0, 2), 1);
    }

    private static long last(RhymedThen x, int word, int history) {
        x.said(word, history, 600, 0);
        return x.row(0);
    }

    private static void changes() {
        due.promise(10);
        RhymedThen x = Due.beds();
        x.lag(3, 20);
        due.is(x, "bad by 1", x.changes(0, 1, 0), 2, 100, 150);
        due.is(x, "bad by 1, late", x.changes(0, 1, 3), 2, 120, 170);
        due.is(x, "bid", x.changes(2, 1, 0), 0);
        due.is("no word", x.changes(4, 0, 0), -1);
        due.is("no history", x.changes(0, 2, 0), -1);
        due.is("no place", x.changes(0, 0, 6), -1);
        RhymedThen y = new RhymedThen();
        Due.words(y, "a", "b", "c");
        Due.law(y, "a>b", 0, 0, 1);
        Due.law(y, "b>a", 7, 7, 1);
        Due.law(y, "a>c", 7, 7, 1);
        Due.law(y, "c>b", 400, 400, 1);
        y.lag(1, 200);
        due.is(y, "in year 0 than it is spelt", y.changes(0, 0, 0), 3, 0, 7, 400);
        due.is(y, "up to year 600", y.changes(0, 0, 1), 3, 200, 207, 600);
        RhymedThen z = new RhymedThen();
        Due.words(z, "a");
        Due.law(z, "a>b", 9, 9, 1);
        Due.law(z, "b>a", 9, 9, 1);
        due.is(z, "there and back in one year", z.changes(0, 0, 0), 0);
    }

    private static void alike() {
        due.promise(11);
        RhymedThen x = Due.beds();
        Due.words(x, "cad", "ib", "ic");
        due.is("bad, bed ahead of it", x.alike(0, 1, 1, 99, 0), 0);
        due.is("bad, bed", x.alike(0, 1, 1, 100, 0), 2);
        due.is("bad, cad", x.alike(0, 4, 1, 99, 0), 1);
        due.is("bad, cad apart", x.alike(0, 4, 1, 100, 0), 0);
        x.lag(2, 20);
        due.is("bad, bed, not yet there", x.alike(0, 1, 1, 119, 2), 0);
        due.is("bad, bed there", x.alike(0, 1, 1, 120, 2), 2);
        due.is("without tails", x.alike(5, 6, 0, 0, 0), 0);
        due.is("one word", x.alike(5, 5, 0, 0, 0), 2);
        due.is("no word", x.alike(7, 0, 0, 0, 0), -1);
        due.is("no word", x.alike(0, 7, 0, 0, 0), -1);
        due.is("no history", x.alike(0, 1, 2, 0, 0), -1);
        due.is("no year", x.alike(0, 1, 0, 601, 0), -1);
        due.is("no place", x.alike(0, 1, 0, 0, 6), -1);
        // tails go by the last vowel
        RhymedThen y = new RhymedThen();
        y.group(0, Due.bits("a"));
        Due.words(y, "badac", "dac", "bacad", "a", "ba");
        due.is("by the last vowel", y.alike(0, 1, 0, 0, 0), 1);
        due.is("by the last vowel", y.alike(0, 2, 0, 0, 0), 0);
        due.is("a vowel alone", y.alike(3, 4, 0, 0, 0), 1);
    }

    private static void one() {
        due.promise(12);
        RhymedThen x = Due.beds();
        due.is(x, "bad, bed", x.one(0, 1, 1, 0), 1, 100, 600);
        due.is(x, "bad, bed by 0", x.one(0, 1, 0, 0), 0);
        due.is(x, "one word", x.one(3, 3, 0, 0), 1, 0, 600);
        due.is("no word", x.one(4, 0, 0, 0), -1);
        due.is("no word", x.one(0, 4, 0, 0), -1);
        due.is("no history", x.one(0, 1, 2, 0), -1);
        due.is("no place", x.one(0, 1, 0, 6), -1);
        due.row(x, "the ROW stays", 0, 600);
        // what is one stays one: laws see no more than what is said
        RhymedThen y = new RhymedThen();
        Due.words(y, "ac", "bd", "ad");
        Due.law(y, "b>a", 10, 10, 1);
        Due.law(y, "c>d", 20, 20, 1);
        Due.law(y, "d>", 20, 20, 1);
        y.lag(1, 200);
        due.is(y, "ac, ad", y.one(0, 2, 0, 0), 1, 20, 600);
        due.is(y, "bd, ad", y.one(1, 2, 0, 1), 1, 210, 600);
        RhymedThen z = new RhymedThen();
        Due.words(z, "a", "b");
        Due.law(z, "a>b", 399, 399, 1);
        Due.law(z, "b>c", 400, 400, 1);
        z.lag(1, 200);
        due.is(z, "a, b", z.one(0, 1, 0, 0), 1, 399, 600);
        due.is(z, "a, b, late", z.one(0, 1, 0, 1), 1, 599, 600);
        RhymedThen either = either();
        due.is(either, "a, b by 0", either.one(0, 1, 0, 0), 1, 10, 600);
        due.is(either, "a, b by 1", either.one(0, 1, 1, 0), 1, 20, 600);
        due.is(either, "a, b by 1, late", either.one(0, 1, 1, 4), 1, 25, 600);
    }

    /** One law, in 10 or 20, 5 years later at place 4: a becomes b, which rhymes with cb. */
    private static RhymedThen either() {
        RhymedThen x = new RhymedThen();
        x.group(0, Due.bits("ab"));
        Due.words(x, "a", "b", "cb");
        Due.law(x, "a>b", 10, 20, 10);
        x.lag(4, 5);
        return x;
    }

    private static void rhymes() {
        due.promise(13);
        RhymedThen x = Due.beds();
        Due.words(x, "cad", "ad", "b");
        due.is(x, "bad in 0", x.rhymes(0, 0, 0, 0), 2, 4, 5);
        due.is(x, "cad in 100", x.rhymes(4, 1, 100, 0), 1, 5);
        due.is(x, "bed in 100", x.rhymes(1, 1, 100, 0), 1, 0);
        due.is(x, "without a tail", x.rhymes(6, 1, 100, 0), 0);
        RhymedThen either = either();
        due.is(either, "a by 0", either.rhymes(0, 0, 10, 0), 2, 1, 2);
        due.is(either, "a by 1", either.rhymes(0, 1, 10, 0), 0);
        due.is(either, "a by 0, not yet there", either.rhymes(0, 0, 14, 4), 0);
        due.is(either, "b by 0, not yet there", either.rhymes(1, 0, 14, 4), 1, 2);
        due.is(either, "a by 0 there", either.rhymes(0, 0, 15, 4), 2, 1, 2);
        due.is("no word", x.rhymes(7, 0, 0, 0), -1);
        due.is("no history", x.rhymes(0, 2, 0, 0), -1);
        due.is("no year", x.rhymes(0, 0, -1, 0), -1);
        due.is("no place", x.rhymes(0, 0, 0, -1), -1);
        RhymedThen all = new RhymedThen();
        all.group(0, 1);
        for (int i = 0; i < 20; i++) {
            Due.word(all, "a");
        }
        due.is("all others", all.rhymes(19, 0, 0, 0), 19);
        due.is("the last one", all.row(18), 18);
    }

    private static void chance() {
        due.promise(14);
        RhymedThen x = new RhymedThen();
        due.is("no words", x.chance(0, 0, 0), -2);
        x.group(0, 1);
        Due.words(x, "ab");
        due.is("one word", x.chance(0, 0, 0), -2);
        Due.words(x, "cab");
        due.is(x, "two words", x.chance(0, 0, 0), 0, 1, 1);
        Due.words(x, "ac", "b");
        due.is(x, "one pair of six", x.chance(0, 0, 0), 0, 1, 6);
        Due.words(x, "dab");
        due.is(x, "three of ten", x.chance(0, 0, 0), 0, 3, 10);
        x.group(0, 2);
        due.is(x, "b ends four", x.chance(0, 0, 0), 0, 3, 5);
        x.group(0, 0);
        due.is(x, "none", x.chance(0, 600, 5), 0, 0, 1);
        RhymedThen either = either();
        due.is(either, "by 0", either.chance(0, 10, 0), 0, 1, 1);
        due.is(either, "by 1", either.chance(1, 10, 0), 0, 1, 3);
        due.is(either, "by 0, not yet there", either.chance(0, 14, 4), 0, 1, 3);
        due.is(either, "by 0 there", either.chance(0, 15, 4), 0, 1, 1);
        due.is("no history", x.chance(1, 0, 0), -1);
        due.is("no year", x.chance(0, 601, 0), -1);
        due.is("no place", x.chance(0, 0, 6), -1);
    }

    private static void works() {
        due.promise(15);
        RhymedThen x = Due.beds();
        x.lag(2, 100);
        due.is("a>e in 99", x.works(0, 1, 99, 0), 0);
        due.is("a>e in 100", x.works(0, 1, 100, 0), 1);
        due.is("a>e late", x.works(0, 1, 199, 2), 0);
        due.is("a>e late", x.works(0, 1, 200, 2), 1);
        due.is("a>b by 0 in 10", either().works(0, 0, 10, 0), 1);
        due.is("a>b by 1 in 10", either().works(0, 1, 10, 0), 0);
        due.is("e> behind it", x.works(1, 1, 600, 0), 3);
        due.is("e> ahead of it", x.works(1, 0, 600, 0), 2);
        due.is("no law", x.works(2, 0, 0, 0), -1);
        due.is("no law", x.works(-1, 0, 0, 0), -1);
        due.is("no history", x.works(0, 2, 0, 0), -1);
        due.is("no year", x.works(0, 0, 601, 0), -1);
        due.is("no place", x.works(0, 0, 0, 6), -1);
    }
}
