/** The edges that the document's terms name. */
final class EdgesOfTerms extends Edges {
    EdgesOfTerms(Edge edge) {
        super(edge);
    }

    @Override
    void run() {
        sounds();
        classes();
        words();
        laws();
        lawSides();
        lawWorksAtOnce();
        years();
        histories();
        places();
        saidYears();
        tails();
        signs();
        rhymesAndPuns();
        beatsAndBooks();
        apart();
        fitting();
        weights();
        rows();
        refusals();
    }

    private void wordIs(String text, long want) {
        edge.is("word " + text, Due.word(new RhymedThen(), text), want);
    }

    private void lawIs(String text, long want) {
        edge.is("law " + text, Due.law(new RhymedThen(), text, 0, 0, 1), want);
    }

    /** How a word is said by one law. */
    private void becomes(String word, String law, String want) {
        RhymedThen x = new RhymedThen();
        x.group(0, Due.bits("ae"));
        Due.word(x, word);
        edge.is("law " + law, Due.law(x, law, 0, 0, 1), 0);
        saidIs(x, word + " by " + law, 0, 0, want);
    }

    private void saidIs(RhymedThen x, String what, int word, int year, String want) {
        long[] sounds = want.chars().mapToLong(c -> c - 'a').toArray();
        edge.tells(x, what, x.said(word, 0, year, 0), sounds.length, sounds);
    }

    private void sounds() {
        edge.term("SOUNDS a .. p (numbers 0 .. 15).");
        RhymedThen x = new RhymedThen();
        Due.word(x, "ap");
        edge.tells(x, "ap", x.said(0, 0, 0, 0), 2, 0, 15);
        String[] fine = {"a", "p"};
        String[] none = {"`", "q"};
        for (int i = 0; i < 2; i++) {
            wordIs(fine[i], 0);
            wordIs(none[i], -1);
            lawIs(fine[i] + ">b", 0);
            lawIs(none[i] + ">b", -1);
            lawIs("b>" + fine[i], 0);
            lawIs("b>" + none[i], -3);
            lawIs("b>c/" + fine[i] + "_", 0);
            lawIs("b>c/" + none[i] + "_", -5);
            lawIs("b>c/_" + fine[i], 0);
            lawIs("b>c/_" + none[i], -6);
        }
    }

    private void classes() {
        edge.term("CLASSES A .. F: sets of SOUNDS (at first none; LAWS go by what they are now).");
        String[] fine = {"A", "F"};
        String[] none = {"@", "G"};
        for (int i = 0; i < 2; i++) {
            lawIs(fine[i] + ">b", 0);
            lawIs(none[i] + ">b", -1);
            lawIs("b>c/" + fine[i] + "_", 0);
            lawIs("b>c/" + none[i] + "_", -5);
            lawIs("b>c/_" + fine[i], 0);
            lawIs("b>c/_" + none[i], -6);
        }
        for (int c = 0; c < 6; c++) {
            RhymedThen x = new RhymedThen();
            Due.words(x, "abcdefgh", "ijklmnop");
            Due.law(x, (char) ('A' + c) + ">", 0, 0, 1);
            saidIs(x, "at first none", 0, 0, "abcdefgh");
            saidIs(x, "at first none", 1, 0, "ijklmnop");
            x.group(c, 1 | 1 << 15);
            saidIs(x, "as it is now", 0, 0, "bcdefgh");
            saidIs(x, "as it is now", 1, 0, "ijklmno");
            x.group(c, 65535);
            saidIs(x, "as it is now", 0, 0, "");
            x.group(c, 0);
            saidIs(x, "as it is now", 1, 0, "ijklmnop");
        }
        becomes("caca", "c>b/A_", "caba");
        becomes("caca", "c>b/B_", "caca");
        becomes("acac", "c>b/_A", "abac");
        becomes("acac", "c>b/_B", "acac");
    }

    private void words() {
        edge.term("WORDS 0 .. (at most 20): 1 to 8 SOUNDS, as they are SPELT: so they were said in the beginning.");
        RhymedThen x = new RhymedThen();
        for (int w = 0; w < 20; w++) {
            edge.is("word " + w, Due.word(x, "ab"), w);
        }
        edge.is("word 20", Due.word(x, "ab"), -100);
        edge.is("count(0)", x.count(0), 20);
        wordIs("", -1);
        wordIs("a", 0);
        wordIs("abcdefgh", 0);
        wordIs("abcdefghi", -9);
        RhymedThen y = new RhymedThen();
        Due.words(y, "a", "aaaaaaaa");
        Due.law(y, "a>b", 1, 1, 1);
        saidIs(y, "in the beginning", 0, 0, "a");
        saidIs(y, "in the beginning", 1, 0, "aaaaaaaa");
        saidIs(y, "then", 1, 1, "bbbbbbbb");
        Due.word(y, "ca");
        saidIs(y, "a word told later, in the beginning", 2, 0, "ca");
        saidIs(y, "a word told later, then", 2, 1, "cb");
    }

    private void laws() {
        edge.term("LAWS 0 .. (at most 6) are texts of at most 20 signs:");
        RhymedThen x = new RhymedThen();
        for (int l = 0; l < 6; l++) {
            edge.is("law " + l, Due.law(x, "a>b", 0, 0, 1), l);
        }
        edge.is("law 6", Due.law(x, "a>b", 0, 0, 1), -100);
        edge.is("count(1)", x.count(1), 6);
        // no law has more than 7 signs: of longer texts it is the eighth that can't stand there
        lawIs("a>b/c_d", 0);
        for (int more : new int[] {1, 12, 13, 14, 33}) {
            lawIs("a>b/c_d" + "d".repeat(more), -8);
        }
        edge.term("what goes (a SOUND, or a CLASS), then >, then a SOUND that it becomes, or nothing (it is lost),");
        lawIs("#>b", -1);
        lawIs("ab", -2);
        lawIs("a>A", -3);
        lawIs("a>#", -3);
        lawIs("a>bb", -4);
        becomes("aba", "a>", "b");
        becomes("aa", "a>", "");
        becomes("aea", "A>e", "eee");
        becomes("a", "a>a", "a");
    }

    private void lawSides() {
        edge.term("and perhaps / then what is left of it, then _, then what is right of it: each a SOUND, a CLASS, # "
            + "(the WORD's edge), or nothing (whatever there is).");
        becomes("aaa", "a>b/_", "bbb");
        becomes("aaa", "a>/_", "");
        becomes("aaa", "a>b/#_", "baa");
        becomes("aaa", "a>b/_#", "aab");
        becomes("aa", "a>b/#_#", "aa");
        becomes("a", "a>b/#_#", "b");
        becomes("aca", "a>b/c_", "acb");
        becomes("aca", "a>b/_c", "bca");
        becomes("aca", "a>b/c_#", "acb");
        becomes("acac", "a>b/c_#", "acac");
        becomes("aca", "a>b/#_c", "bca");
        becomes("aeae", "e>b/A_A", "abae");
        // an edge is no sound of any class
        RhymedThen x = new RhymedThen();
        x.group(5, 65535);
        Due.word(x, "aaa");
        Due.law(x, "a>b/F_F", 0, 0, 1);
        saidIs(x, "an edge is in no class", 0, 0, "aba");
    }

    private void lawWorksAtOnce() {
        edge.term("A LAW works on all SOUNDS of a WORD at once: what stands left and right is as it was ahead of the "
            + "LAW.");
        becomes("baaa", "a>b/b_", "bbaa");
        becomes("aaab", "a>b/_b", "aabb");
        becomes("bbbb", "b>/b_", "b");
        becomes("bbbb", "b>/_b", "b");
        becomes("abab", "b>/_#", "aba");
        becomes("aabb", "a>/#_", "abb");
    }

    private void years() {
        edge.term("A LAW has YEARS in which it may have come: from one to another by steps (1 to 8 of them, 0 .. "
            + "400).");
        yearsAre(0, 0, 1, 1);
        yearsAre(0, 7, 1, 8);
        yearsAre(0, 8, 1, -101);
        yearsAre(0, 7, 8, 1);
        yearsAre(0, 8, 8, 2);
        yearsAre(400, 400, 1, 1);
        yearsAre(401, 401, 1, -101);
        yearsAre(400, 401, 1, -101);
        yearsAre(-1, 0, 1, -101);
        yearsAre(-1, -1, 1, -101);
        yearsAre(0, 400, 58, 7);
        yearsAre(0, 400, 57, 8);
        yearsAre(0, 400, 51, 8);
        yearsAre(0, 400, 50, -101);
    }

    /** How many years a law has, or what it answers instead. */
    private void yearsAre(int first, int last, int step, int want) {
        RhymedThen x = new RhymedThen();
        int answer = Due.law(x, "a>b", first, last, step);
        edge.is("years " + first + " " + last + " " + step, answer == 0 ? x.count(2) : answer, want);
        edge.is("the last of them", x.year(0, x.count(2) - 1), want < 0 ? -1 : first + (want - 1) * step);
    }

    private void histories() {
        edge.term("they are numbered 0, 1, ..: by the YEAR of LAW 0, then of LAW 1, and so on, lesser ones first "
            + "(with no LAWS there is one).");
        RhymedThen x = new RhymedThen();
        edge.is("with no laws", x.count(2), 1);
        edge.tells(x, "with no laws", x.fits(), 1, 0);
        Due.law(x, "a>b", 40, 50, 10);
        Due.law(x, "a>b", 0, 2, 1);
        int[][] years = {{40, 0}, {40, 1}, {40, 2}, {50, 0}, {50, 1}, {50, 2}};
        edge.is("count(2)", x.count(2), 6);
        for (int h = 0; h < 6; h++) {
            edge.is("law 0 by " + h, x.year(0, h), years[h][0]);
            edge.is("law 1 by " + h, x.year(1, h), years[h][1]);
        }
        edge.term("There are at most 600.");
        RhymedThen full = new RhymedThen();
        Due.law(full, "a>b", 0, 4, 1);
        Due.law(full, "a>b", 0, 4, 1);
        Due.law(full, "a>b", 0, 7, 1);
        edge.is("200 by 4", Due.law(full, "a>b", 0, 3, 1), -102);
        edge.is("200 by 3", Due.law(full, "a>b", 0, 2, 1), 3);
        edge.is("count(2)", full.count(2), 600);
        edge.is("600 by 2", Due.law(full, "a>b", 0, 1, 1), -102);
        edge.is("600 by 1", Due.law(full, "a>b", 0, 0, 1), 4);
        edge.is("count(2)", full.count(2), 600);
        edge.is("history 599", full.year(3, 599), 2);
        edge.is("history 600", full.year(3, 600), -1);
        // of numbers that laws of up to 8 years can make, 625 is the next one above 600
        RhymedThen near = new RhymedThen();
        for (int l = 0; l < 3; l++) {
            Due.law(near, "a>b", 0, 4, 1);
        }
        edge.is("125 by 5", Due.law(near, "a>b", 0, 4, 1), -102);
        edge.is("125 by 4", Due.law(near, "a>b", 0, 3, 1), 3);
        edge.is("count(2)", near.count(2), 500);
        allHistoriesAreWalked();
    }

    /** All 600 fit; by 360 of them, those in which law 0 comes in 0, 1 or 2, a is said b in year 2. */
    private void allHistoriesAreWalked() {
        RhymedThen x = new RhymedThen();
        x.group(0, Due.bits("ab"));
        Due.words(x, "a", "b");
        int[] last = {4, 4, 7, 2};
        for (int l = 0; l < last.length; l++) {
            Due.law(x, l == 0 ? "a>b" : "c>d", 0, last[l], 1);
        }
        x.mark(3, 0, 0, 2, 0, 1);
        x.turn(0, false);
        x.mark(0, 0, 1, 600, 0, 0);
        edge.tells(x, "fits", x.fits(), 600, 0);
        edge.tells(x, "next", x.next(), 0, 360);
        edge.tells(x, "odds", x.odds(0), 0, 3, 5);
        edge.tells(x, "likely", x.likely(), 0, 1, 600);
        edge.tells(x, "then", x.then(0, 2, 0), 1, 3, 5, 1);
        edge.tells(x, "right", x.right(599, 2, 0), 1, 2);
        edge.tells(x, "sure", x.sure(0, 2, 0), 2, 1, 1);
        edge.tells(x, "might", x.might(3, 0, 0, 2, 0, 1), 600, 360, 240);
        edge.tells(x, "look", x.look(2, 0), 360, 0, 1);
        edge.tells(x, "wrong", x.wrong(), 0, 0, 0);
        edge.tells(x, "least", x.least(), 1, 1, 0);
        edge.is("blunder", x.blunder(), 0);
        edge.is("span", x.span(0, 1), 4);
        edge.is("order", x.order(0, 3), 0);
        edge.is("lean", x.lean(0, 0), 1);
        edge.is("settled", x.settled(0, 0), 10);
        edge.is("ahead", x.ahead(0, 1), 200);
        x.mark(3, 0, 0, 0, 0, 15);
        edge.tells(x, "none fits", x.fits(), 0);
        edge.is("blunder, none fits", x.blunder(), 4);
        edge.is("ahead, none fits", x.ahead(0, 0), -2);
        edge.is("next, none fits", x.next(), -2);
        edge.is("lean, none fits", x.lean(0, 0), -2);
        edge.is("least, none fits", x.least(), -2);
        edge.is("settled, none fits", x.settled(0, 0), -2);
    }

    private void places() {
        edge.term("PLACES 0 .. 5, each with a LAG 0 .. 200 (at first 0): a LAW comes there so many years later.");
        RhymedThen x = new RhymedThen();
        Due.word(x, "a");
        Due.law(x, "a>b", 100, 100, 1);
        for (int p = 0; p < 6; p++) {
            cameIn(x, p, 100);
            edge.is("lag(" + p + ", 1)", x.lag(p, 1), 0);
            cameIn(x, p, 101);
            edge.is("lag(" + p + ", 200)", x.lag(p, 200), 1);
            cameIn(x, p, 300);
            edge.is("lag(" + p + ", 201)", x.lag(p, 201), -1);
            edge.is("lag(" + p + ", -1)", x.lag(p, -1), -1);
            cameIn(x, p, 300);
        }
        edge.is("place 6", x.said(0, 0, 0, 6), -1);
        edge.is("place -1", x.said(0, 0, 0, -1), -1);
    }

    private void cameIn(RhymedThen x, int place, int year) {
        edge.tells(x, "place " + place + " ahead of " + year, x.said(0, 0, year - 1, place), 1, 0);
        edge.tells(x, "place " + place + " in " + year, x.said(0, 0, year, place), 1, 1);
    }

    private void saidYears() {
        edge.term("SAID: by a HISTORY, in a YEAR 0 .. 600, at a PLACE a WORD is SAID as it is SPELT, gone through by "
            + "all LAWS that have come there by that YEAR (in it, too):");
        RhymedThen x = new RhymedThen();
        Due.words(x, "a", "c");
        Due.law(x, "a>b", 0, 0, 1);
        Due.law(x, "c>d", 400, 400, 1);
        x.lag(1, 200);
        edge.tells(x, "a law of year 0 in year 0", x.said(0, 0, 0, 0), 1, 1);
        edge.tells(x, "late, in 199", x.said(0, 0, 199, 1), 1, 0);
        edge.tells(x, "late, in 200", x.said(0, 0, 200, 1), 1, 1);
        edge.tells(x, "a law of year 400 in 399", x.said(1, 0, 399, 0), 1, 2);
        edge.tells(x, "a law of year 400 in 400", x.said(1, 0, 400, 0), 1, 3);
        edge.tells(x, "late, in 599", x.said(1, 0, 599, 1), 1, 2);
        edge.tells(x, "late, in 600", x.said(1, 0, 600, 1), 1, 3);
        edge.is("in 601", x.said(1, 0, 601, 1), -1);
        edge.is("in -1", x.said(1, 0, -1, 1), -1);
        edge.term("in the order of their YEARS, of equal YEARS by numbers.");
        lastIs("a>b", "b>c", 10, 11, 2);
        lastIs("a>b", "b>c", 10, 10, 2);
        lastIs("a>b", "b>c", 10, 9, 1);
        lastIs("b>c", "a>b", 10, 11, 1);
        lastIs("b>c", "a>b", 10, 10, 1);
        lastIs("b>c", "a>b", 10, 9, 2);
    }

    private void lastIs(String law, String other, int year, int otherYear, int want) {
        RhymedThen x = new RhymedThen();
        Due.word(x, "a");
        Due.law(x, law, year, year, 1);
        Due.law(x, other, otherYear, otherYear, 1);
        edge.tells(x, law + " in " + year + ", " + other + " in " + otherYear, x.said(0, 0, 600, 0), 1, want);
    }

    private void tails() {
        edge.term("TAIL of SOUNDS: from the last one that is in CLASS A on to the end; none, if no one is.");
        rhyme("ab", "cab", 1);
        rhyme("aab", "cab", 1);
        rhyme("ab", "aba", 0);
        rhyme("ba", "a", 1);
        rhyme("ab", "eb", 0);
        rhyme("ab", "abb", 0);
        rhyme("bc", "bd", 0);
        rhyme("bc", "ac", 0);
        rhyme("abcdbcda", "a", 1);
        rhyme("abcdbcdb", "abcdbcdc", 0);
        rhyme("abcdbcdb", "dabcdbcd", 0);
    }

    private void rhyme(String one, String other, int want) {
        RhymedThen x = new RhymedThen();
        x.group(0, Due.bits("ae"));
        x.group(1, 65535);
        Due.words(x, one, other);
        edge.is(one + " and " + other, x.alike(0, 1, 0, 0, 0), want);
        edge.is(other + " and " + one, x.alike(1, 0, 0, 0, 0), want);
    }

    private void signs() {
        edge.term("SIGNS 0 .. (at most 16), each of a YEAR, a PLACE, one or two WORDS, a POET 0 .. 5, a TRUST 1 .. "
            + "9, and ON or not (at first it is).");
        RhymedThen x = Due.beds();
        for (int s = 0; s < 16; s++) {
            edge.is("sign " + s, x.mark(0, 0, 1, 600, 5, 0), s);
            edge.is("on at first", x.count(4), (1 << s + 1) - 1);
        }
        edge.is("sign 16", x.mark(0, 0, 1, 600, 5, 0), -1);
        edge.is("count(3)", x.count(3), 16);
        edge.is("poet 5, trust 9", x.by(15, 5, 9), true);
        edge.is("poet 0, trust 1", x.by(15, 0, 1), true);
        edge.is("poet 6", x.by(15, 6, 5), false);
        edge.is("poet -1", x.by(15, -1, 5), false);
        edge.is("trust 0", x.by(15, 0, 0), false);
        edge.is("trust 10", x.by(15, 0, 10), false);
    }

    /** Whether a sign of the first two of some words holds. */
    private void holds(int kind, int number, int want, String... words) {
        RhymedThen x = new RhymedThen();
        x.group(0, Due.bits("ae"));
        Due.words(x, words);
        Due.law(x, "p>", 0, 0, 1);
        edge.is("mark", x.mark(kind, 0, 1, 0, 0, number), 0);
        edge.is("kind " + kind + " of " + String.join(" ", words) + " " + number, x.holds(0, 0), want);
    }

    private void rhymesAndPuns() {
        edge.term("kind 0, RHYME: SAID there and then, both WORDS have a TAIL, and these are alike.");
        holds(0, 0, 1, "ab", "cab");
        holds(0, 0, 1, "ab", "ab");
        holds(0, 0, 0, "ab", "ac");
        holds(0, 0, 0, "ab", "cb");
        holds(0, 0, 0, "cb", "ab");
        holds(0, 0, 0, "cb", "cb");
        holds(0, 0, 0, "p", "p");
        edge.term("1, PUN: both are SAID alike.");
        holds(1, 0, 1, "ab", "ab");
        holds(1, 0, 1, "cb", "cb");
        holds(1, 0, 1, "ab", "apb");
        holds(1, 0, 1, "p", "pp");
        holds(1, 0, 0, "ab", "cab");
        holds(1, 0, 0, "ab", "aba");
        holds(1, 0, 0, "aba", "ab");
        holds(1, 0, 0, "a", "p");
    }

    private void beatsAndBooks() {
        edge.term("2, BEATS: the first WORD has so many SOUNDS of CLASS A (0 .. 8).");
        holds(2, 0, 1, "bcd");
        holds(2, 0, 1, "p");
        holds(2, 1, 0, "bcd");
        holds(2, 8, 1, "aeaeaeae");
        holds(2, 7, 0, "aeaeaeae");
        holds(2, 7, 1, "aeaepaea");
        holds(2, 8, 0, "aeaepaea");
        edge.is("9", Due.beds().mark(2, 0, 0, 0, 0, 9), -1);
        edge.is("-1", Due.beds().mark(2, 0, 0, 0, 0, -1), -1);
        edge.term("3, BOOK: the first WORD is SAID so that at a place (0 .. 7) stands a SOUND: told as the place "
            + "times 16, and the SOUND.");
        holds(3, 0, 1, "a");
        holds(3, 1, 0, "a");
        holds(3, 14, 1, "o");
        holds(3, 16, 0, "a");
        holds(3, 16, 1, "ba");
        holds(3, 7 * 16, 1, "bbbbbbba");
        holds(3, 7 * 16, 0, "bbbbbbb");
        holds(3, 7 * 16, 0, "bbbbbbab");
        holds(3, 7 * 16 + 14, 1, "bbbbbbbo");
        holds(3, 0, 0, "p");
        holds(3, 0, 1, "pa");
        RhymedThen last = new RhymedThen();
        Due.word(last, "aaaaaaap");
        last.mark(3, 0, 0, 0, 0, 127);
        edge.is("p at place 7", last.holds(0, 0), 1);
        edge.is("128", last.mark(3, 0, 0, 0, 0, 128), -1);
        edge.is("-1", last.mark(3, 0, 0, 0, 0, -1), -1);
    }

    private void apart() {
        edge.term("4, APART: both have a TAIL, and these are not alike.");
        holds(4, 0, 1, "ab", "ac");
        holds(4, 0, 0, "ab", "cab");
        holds(4, 0, 0, "ab", "cb");
        holds(4, 0, 0, "cb", "ab");
        holds(4, 0, 0, "cb", "cd");
        holds(4, 0, 0, "p", "b");
    }

    private void fitting() {
        edge.term("A HISTORY FITS, if all SIGNS that are ON HOLD by it.");
        RhymedThen x = Due.beds();
        edge.tells(x, "no signs", x.fits(), 2, 0);
        x.mark(0, 0, 2, 0, 0, 0);
        edge.tells(x, "one that never holds", x.fits(), 0);
        x.turn(0, false);
        edge.tells(x, "none on", x.fits(), 2, 0);
        x.mark(0, 0, 1, 120, 0, 0);
        x.mark(1, 0, 1, 120, 0, 0);
        edge.tells(x, "both that are on hold", x.fits(), 1, 1);
        x.turn(0, true);
        edge.tells(x, "all but one", x.fits(), 0);
    }

    private void weights() {
        edge.term("WEIGHT of a HISTORY (where it is asked for, at most 12 SIGNS may be ON):");
        edge.is("12 on", Whole.signed(12).likely(), 0);
        edge.is("13 on", Whole.signed(13).likely(), -1);
        edge.is("12 on", Whole.signed(12).then(0, 0, 0), 3);
        edge.is("13 on", Whole.signed(13).then(0, 0, 0), -1);
        edge.is("12 on", Whole.signed(12).right(0, 0, 0), 4);
        edge.is("13 on", Whole.signed(13).right(0, 0, 0), -1);
        edge.is("12 others on", Whole.signed(12).odds(0), 0);
        edge.is("13 others on", Whole.signed(13).odds(0), -1);
        edge.term("the product, over SIGNS that are ON, of TRUST, if it HOLDS, else of 10 less TRUST.");
        RhymedThen x = Due.beds();
        edge.tells(x, "no signs: 1 of 2", x.likely(), 0, 1, 2);
        x.mark(0, 0, 1, 120, 0, 0);
        x.by(0, 0, 9);
        edge.tells(x, "9 by 1 and 9", x.likely(), 1, 9, 10);
        x.by(0, 0, 1);
        edge.tells(x, "9 by 9 and 1", x.likely(), 0, 9, 10);
        x.by(0, 0, 9);
        for (int s = 1; s < 12; s++) {
            x.mark(0, 0, 1, 120, 0, 0);
            x.by(s, 0, 9);
        }
        long most = 282429536481L;
        edge.tells(x, "9 to the twelfth", x.likely(), 1, most, most + 1);
        edge.term("Fractions are told as upper and lower number in lowest terms (0 by 1).");
        x.mark(0, 0, 2, 120, 0, 0);
        x.turn(12, false);
        edge.tells(x, "it never holds", x.odds(12), 0, 0, 1);
        x.mark(2, 2, 2, 120, 0, 0);
        x.turn(13, false);
        edge.tells(x, "it always holds", x.odds(13), 0, 1, 1);
    }

    private void rows() {
        edge.term("ROW: numbers told last by a call that says so.");
        Edge.Call[] silent = {x -> x.sign(0), x -> Edge.yes(x.end(2)), x -> x.group(2, 7), x -> x.word(),
            x -> x.law(0, 0, 1), x -> Due.law(x, "a>b", 0, 0, 1), x -> x.lag(0, 9), x -> x.lags(0, 6, 1, 1),
            x -> x.lags(3, 0, 0, 0), x -> x.alike(0, 1, 0, 0, 0), x -> x.works(0, 0, 200, 0),
            x -> x.mark(0, 0, 1, 0, 0, 0), x -> Edge.yes(x.by(0, 0, 5)), x -> Edge.yes(x.turn(0, false)),
            x -> x.holds(0, 0), x -> x.span(0, 0), x -> x.order(0, 1), x -> x.blunder(), x -> x.shows(0, 0),
            x -> x.lean(0, 0), x -> x.ahead(0, 0), x -> x.settled(0, 0), x -> x.swap(0, 1, 0, 200, 0),
            x -> Edge.yes(x.keep(0)), x -> Edge.yes(x.again(1)), x -> x.count(0), x -> x.year(0, 0), x -> x.row(1)};
        for (int i = 0; i < silent.length; i++) {
            RhymedThen x = Whole.some();
            long answer = silent[i].on(x);
            edge.tells(x, "silent call " + i, answer, answer, 1, 3);
        }
    }

    /** That tellAll() sees a change of anything that is kept; what each promise refuses is tested with it. */
    private void refusals() {
        edge.term("Refused calls answer NONE, or false, and change nothing.");
        Edge.Call[] changes = {x -> x.sign(0), x -> Edge.yes(x.end(2)), x -> x.group(2, 7), x -> x.word(),
            x -> Due.law(x, "a>b", 0, 0, 1), x -> x.lag(0, 9), x -> x.lags(0, 6, 1, 1),
            x -> x.mark(0, 0, 1, 0, 0, 0), x -> Edge.yes(x.by(0, 3, 9)), x -> Edge.yes(x.by(0, 2, 8)),
            x -> Edge.yes(x.turn(0, false)), x -> Edge.yes(x.turn(1, true)), x -> Edge.yes(x.keep(0)),
            x -> Edge.yes(x.keep(1)), x -> Edge.yes(x.again(1)), x -> x.said(0, 0, 0, 0), x -> x.fits()};
        String asItWas = Whole.tellAll(Whole.some()).toString();
        edge.is("nothing is seen without a change", Whole.tellAll(Whole.some()).toString().equals(asItWas), true);
        for (int i = 0; i < changes.length; i++) {
            RhymedThen x = Whole.some();
            changes[i].on(x);
            edge.is("change " + i + " is seen", !Whole.tellAll(x).toString().equals(asItWas), true);
        }
        edge.refused("an int", Whole::some, x -> x.said(4, 0, 0, 0));
        edge.refused("a boolean", Whole::some, x -> Edge.yes(x.turn(4, false)));
    }
}
