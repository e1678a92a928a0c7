/** Promises 1 to 8. */
public final class WordsAndLawsTest {
    private static final Due due = new Due();

    public static void main(String[] args) {
        newObject();
        sign();
        end();
        group();
        word();
        lawTexts();
        lawYears();
        lawWorks();
        lag();
        lags();
        due.finish();
    }

    private static void newObject() {
        due.promise(1);
        RhymedThen x = new RhymedThen();
        int[] counts = {0, 0, 1, 0, 0, 0, 0};
        for (int what = 0; what < counts.length; what++) {
            due.is("count(" + what + ")", x.count(what), counts[what]);
        }
        for (int i = 0; i < 6; i++) {
            due.is("lag(" + i + ", 0)", x.lag(i, 0), 0);
            due.is("group(" + i + ", 0)", x.group(i, 0), 0);
        }
        for (int i = 0; i < 3; i++) {
            due.is("again(" + i + ")", x.again(i), false);
        }
        due.row(x, "new");
    }

    private static void sign() {
        due.promise(2);
        RhymedThen x = new RhymedThen();
        for (int i = 1; i <= 10; i++) {
            due.is("sign", x.sign(0x61626364), 4 * i);
        }
        due.is("sign beyond 40", x.sign(0x61626364), -1);
        due.is("count(6)", x.count(6), 40);
        x.end(37);
        due.is("sign beyond 40 from 37", x.sign(0x61626364), -1);
        due.is("count(6)", x.count(6), 37);
        x.end(36);
        due.is("sign to 40", x.sign(-1), 40);
        x.end(0);
        x.sign(0x61626370);
        due.is("word()", x.word(), 0);
        due.is(x, "said", x.said(0, 0, 0, 0), 4, 0, 1, 2, 15);
        x.sign(0x6161FF61);
        due.is("a byte above 127 is no sound", x.word(), -3);
        x.sign(0xFF616161);
        due.is("the highest byte comes first", x.word(), -1);
    }

    private static void end() {
        due.promise(3);
        RhymedThen x = new RhymedThen();
        due.is("end(0)", x.end(0), true);
        due.is("end(1)", x.end(1), false);
        x.sign(0x61626364);
        due.is("end(-1)", x.end(-1), false);
        due.is("end(5)", x.end(5), false);
        due.is("end(least)", x.end(Integer.MIN_VALUE), false);
        due.is("count(6)", x.count(6), 4);
        due.is("end(4)", x.end(4), true);
        due.is("count(6)", x.count(6), 4);
        due.is("end(2)", x.end(2), true);
        due.is("end(3)", x.end(3), false);
        due.is("count(6)", x.count(6), 2);
        x.word();
        due.is(x, "said", x.said(0, 0, 0, 0), 2, 0, 1);
    }

    private static void group() {
        due.promise(4);
        RhymedThen x = new RhymedThen();
        for (int c = 0; c < 6; c++) {
            due.is("group", x.group(c, c + 1), 0);
        }
        due.is("group(5, 65535)", x.group(5, 65535), 6);
        due.is("group(5, 65536)", x.group(5, 65536), -1);
        due.is("group(5, -1)", x.group(5, -1), -1);
        due.is("group(6, 0)", x.group(6, 0), -1);
        due.is("group(-1, 0)", x.group(-1, 0), -1);
        due.is("group(5, 0)", x.group(5, 0), 65535);
        due.is("group(4, 0)", x.group(4, 0), 5);
        // laws go by what classes are now
        Due.word(x, "abc");
        Due.law(x, "B>p", 0, 0, 1);
        x.group(1, Due.bits("b"));
        due.is(x, "said", x.said(0, 0, 0, 0), 3, 0, 15, 2);
        x.group(1, Due.bits("ac"));
        due.is(x, "said", x.said(0, 0, 0, 0), 3, 15, 1, 15);
    }

    private static void word() {
        due.promise(5);
        RhymedThen x = new RhymedThen();
        String[] texts = {"", "q", "`", "A", "ab#", "abq", "abcdefgq", "abcdefghi", "abcdefghq", "abqdefghi"};
        int[] at = {0, 0, 0, 0, 2, 2, 7, 8, 8, 2};
        for (int i = 0; i < texts.length; i++) {
            due.is("word " + texts[i], Due.word(x, texts[i]), -1 - at[i]);
            due.is("count(6)", x.count(6), 0);
        }
        due.is("count(0)", x.count(0), 0);
        due.is("word a", Due.word(x, "a"), 0);
        due.is("word abcdefgp", Due.word(x, "abcdefgp"), 1);
        due.is("the text is empty then", x.word(), -1);
        due.is("the same word again", Due.word(x, "a"), 2);
        for (int i = 3; i < 20; i++) {
            due.is("word " + i, Due.word(x, "ab"), i);
        }
        due.is("word 20", Due.word(x, "ab"), -100);
        due.is("count(6)", x.count(6), 0);
        due.is("no word 20", Due.word(x, "q"), -100);
        due.is("count(0)", x.count(0), 20);
    }

    private static void lawTexts() {
        due.promise(6);
        String[] wrong = {"", "a", "a<e", "#>a", "G>a", "q>a", "`>a", "a>>e", "a>#", "a>A", "a>q", "a>ee", "a>e_",
            "a>e/", "a>/", "a>e/b", "a>e/bb_", "a>e/##_", "a>e/q_", "a>e//", "a>e/b_cc", "a>e/_##", "a>e/_q",
            "a>/__", "a>/_c#", "a>e/G_", "a>e/b_ccccccccccccccccccccccccc", "_>a", ">a", "a>e/b_c/b_c"};
        int[] at = {0, 1, 1, 0, 0, 0, 0, 2, 2, 2, 2, 3, 3,
            4, 3, 5, 5, 5, 4, 4, 7, 6, 5,
            4, 5, 4, 7, 0, 0, 7};
        RhymedThen x = new RhymedThen();
        for (int i = 0; i < wrong.length; i++) {
            due.is("law " + wrong[i], Due.law(x, wrong[i], 0, 0, 1), -1 - at[i]);
            due.is("count(6)", x.count(6), 0);
        }
        due.is("count(1)", x.count(1), 0);
        String[] fine = {"a>", "a>e", "A>/_", "p>p/_#", "F>a/#_", "a>/F_p", "a>e/p_A", "a>e/#_#"};
        for (int i = 0; i < fine.length; i++) {
            due.is("law " + fine[i], Due.law(new RhymedThen(), fine[i], 0, 0, 1), 0);
        }
    }

    private static void lawYears() {
        int[][] wrong = {{-1, 0, 1}, {0, 401, 400}, {401, 401, 1}, {5, 4, 1}, {0, 10, 0}, {0, 10, -1}, {0, 8, 1},
            {0, 400, 50}, {0, Integer.MAX_VALUE, 1}, {Integer.MIN_VALUE, 0, 1}, {0, 0, 0}};
        RhymedThen x = new RhymedThen();
        for (int[] w : wrong) {
            due.is("law of years " + w[0] + " " + w[1] + " " + w[2], Due.law(x, "a>e", w[0], w[1], w[2]), -101);
            due.is("count(6)", x.count(6), 0);
        }
        due.is("years are asked first", Due.law(x, "q", 5, 4, 1), -101);
        due.is("0 .. 7", Due.law(x, "a>e", 0, 7, 1), 0);
        due.is("count(2)", x.count(2), 8);
        due.is("8 by 50, the last one not reached", Due.law(x, "a>e", 0, 399, 50), 1);
        due.is("year", x.year(1, 63), 350);
        due.is("8 again", Due.law(x, "a>e", 1, 8, 1), 2);
        due.is("more than 600", Due.law(x, "a>e", 0, 1, 1), -102);
        due.is("count(6)", x.count(6), 0);
        due.is("more than 600 is asked first", Due.law(x, "q", 0, 1, 1), -102);
        due.is("years are asked ahead of that", Due.law(x, "q", 0, 401, 1), -101);
        due.is("one year", Due.law(x, "a>e", 400, 400, Integer.MAX_VALUE), 3);
        due.is("one year", Due.law(x, "a>e", 0, 0, 1), 4);
        due.is("a text that is none changes nothing", Due.law(x, "q", 0, 0, 1), -1);
        due.is("one year", Due.law(x, "a>e", 0, 0, 1), 5);
        due.is("the seventh is asked first", Due.law(x, "q", 5, 4, 1), -100);
        due.is("count(6)", x.count(6), 0);
        due.is("count(2)", x.count(2), 512);
        RhymedThen full = new RhymedThen();
        Due.law(full, "a>e", 0, 4, 1);
        Due.law(full, "a>e", 0, 4, 1);
        Due.law(full, "a>e", 0, 5, 1);
        due.is("600 histories", Due.law(full, "a>e", 0, 3, 1), 3);
        due.is("count(2)", full.count(2), 600);
        due.is("601 and more", Due.law(full, "a>e", 0, 1, 1), -102);
    }

    private static void lawWorks() {
        String[][] all = {
            {"a>b", "aca", "bcb"}, {"a>", "aca", "c"}, {"a>", "aa", ""}, {"a>b/_a", "aaa", "bba"},
            {"a>b/a_", "aaa", "abb"}, {"a>b/#_", "aaa", "baa"}, {"a>b/_#", "aaa", "aab"}, {"a>b/#_#", "aa", "aa"},
            {"a>b/#_#", "a", "b"}, {"a>/a_a", "aaaaaaaa", "aa"}, {"A>a", "cde", "aaa"}, {"A>c", "cde", "ccc"},
            {"A>/A_", "cccd", "c"}, {"b>/A_A", "bcbcb", "bccb"}, {"b>a/_B", "bcb", "bcb"},
        };
        for (String[] l : all) {
            RhymedThen x = new RhymedThen();
            x.group(0, Due.bits("cde"));
            Due.word(x, l[1]);
            Due.law(x, l[0], 0, 0, 1);
            long[] want = l[2].chars().mapToLong(c -> c - 'a').toArray();
            due.is(x, l[0] + " of " + l[1], x.said(0, 0, 0, 0), want.length, want);
        }
    }

    private static void lag() {
        due.promise(7);
        RhymedThen x = Due.beds();
        due.is("lag(5, 200)", x.lag(5, 200), 0);
        due.is("lag(5, 201)", x.lag(5, 201), -1);
        due.is("lag(5, -1)", x.lag(5, -1), -1);
        due.is("lag(6, 0)", x.lag(6, 0), -1);
        due.is("lag(-1, 0)", x.lag(-1, 0), -1);
        due.is(x, "bad in 299", x.said(0, 0, 299, 5), 3, 1, 0, 3);
        due.is(x, "bad in 300", x.said(0, 0, 300, 5), 3, 1, 4, 3);
        due.is("lag(5, 0)", x.lag(5, 0), 200);
        due.is("lag(4, 0)", x.lag(4, 0), 0);
    }

    private static void lags() {
        due.promise(8);
        RhymedThen x = new RhymedThen();
        due.is("bytes", x.lags(0, 3, 250, 10), 18);
        lagsAre(x, 0, 4, 14, 0, 0, 0);
        due.is("bytes: 127, -128", x.lags(0, 2, 127, 1), 127);
        lagsAre(x, 127, 0, 0, 0, 0, 0);
        due.is("shorts", x.lags(1, 6, 65536 + 50, 30), 50 + 80 + 110 + 140 + 170 + 200);
        lagsAre(x, 50, 80, 110, 140, 170, 200);
        due.is("shorts: 32767, -32768", x.lags(1, 2, 32767, 1), 200);
        lagsAre(x, 200, 0, 0, 0, 0, 0);
        due.is("ints", x.lags(2, 3, 201, -1), 200 + 200 + 199);
        lagsAre(x, 200, 200, 199, 0, 0, 0);
        due.is("ints beyond the greatest", x.lags(2, 2, Integer.MAX_VALUE, 1), 200);
        lagsAre(x, 200, 0, 0, 0, 0, 0);
        due.is("n below 0", x.lags(0, -1, 5, 5), -2);
        due.is("n below 0", x.lags(2, Integer.MIN_VALUE, 5, 5), -2);
        due.is("n above 6", x.lags(1, 7, 5, 5), -1);
        due.is("n above 6 comes ahead of missing", x.lags(3, 7, 5, 5), -1);
        due.is("another kind", x.lags(4, 0, 5, 5), -1);
        due.is("another kind comes first", x.lags(-1, -1, 5, 5), -1);
        lagsAre(x, 200, 0, 0, 0, 0, 0);
        due.is("missing", x.lags(3, -1, 5, 5), -3);
        lagsAre(x, 0, 0, 0, 0, 0, 0);
        x.lags(2, 6, 9, 0);
        due.is("no entries", x.lags(0, 0, 5, 5), 0);
        lagsAre(x, 0, 0, 0, 0, 0, 0);
    }

    private static void lagsAre(RhymedThen x, int... want) {
        for (int p = 0; p < 6; p++) {
            int was = x.lag(p, 0);
            due.is("lag of place " + p, was, want[p]);
            x.lag(p, was);
        }
    }
}
