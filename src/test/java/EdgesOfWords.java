/** The edges of promises 1 to 8. */
final class EdgesOfWords extends Edges {
    EdgesOfWords(Edge edge) {
        super(edge);
    }

    @Override
    void run() {
        newObject();
        newObjectIsAsked();
        sign();
        end();
        group();
        word();
        wordAtItsLimit();
        lawTexts();
        lawYears();
        lawAsksInOrder();
        lag();
        lagsOfKinds();
        lagsRefused();
    }

    private void newObject() {
        edge.sentence(1, "Nothing there.");
        RhymedThen x = new RhymedThen();
        int[] counts = {0, 0, 1, 0, 0, 0, 0};
        for (int what = 0; what < counts.length; what++) {
            edge.is("count(" + what + ")", x.count(what), counts[what]);
        }
        for (int i = 0; i < 6; i++) {
            edge.is("class " + i, x.group(i, 0), 0);
            edge.is("lag " + i, x.lag(i, 0), 0);
        }
        Edge.Call[] none = {y -> y.said(0, 0, 0, 0), y -> y.changes(0, 0, 0), y -> y.alike(0, 0, 0, 0, 0),
            y -> y.one(0, 0, 0, 0), y -> y.rhymes(0, 0, 0, 0), y -> y.works(0, 0, 0, 0), y -> y.mark(2, 0, 0, 0, 0, 0),
            y -> Edge.yes(y.by(0, 0, 5)), y -> Edge.yes(y.turn(0, true)), y -> y.holds(0, 0), y -> y.span(0, 0),
            y -> y.order(0, 1), y -> y.sure(0, 0, 0), y -> y.shows(0, 0), y -> y.odds(0), y -> y.then(0, 0, 0),
            y -> y.next(), y -> y.might(2, 0, 0, 0, 0, 0), y -> y.look(0, 0), y -> y.settled(0, 0),
            y -> y.town(0, 0, 0, 0), y -> y.swap(0, 1, 0, 0, 0), y -> Edge.yes(y.again(0)), y -> Edge.yes(y.again(1)),
            y -> Edge.yes(y.again(2)), y -> y.year(0, 0), y -> y.said(0, 1, 0, 0), y -> Edge.yes(y.end(1))};
        for (int i = 0; i < none.length; i++) {
            edge.refused("call " + i + " of a new object", RhymedThen::new, none[i]);
        }
        edge.is("an empty word", new RhymedThen().word(), -1);
        edge.is("an empty law", new RhymedThen().law(0, 0, 1), -1);
        edge.is("row(0) throws", Due.throwsAt(new RhymedThen(), 0), true);
    }

    /** What can be asked without anything there. */
    private void newObjectIsAsked() {
        RhymedThen x = new RhymedThen();
        edge.tells(x, "fits", x.fits(), 1, 0);
        edge.tells(x, "wrong", x.wrong(), 0, 0, 0);
        edge.tells(x, "blunder", x.blunder(), 0, 0, 0);
        edge.tells(x, "least", x.least(), 0, 0, 0);
        edge.tells(x, "right", x.right(0, 600, 5), 0, 0);
        edge.tells(x, "likely", x.likely(), 0, 1, 1);
        edge.tells(x, "eye", x.eye(5, 0), 0, 0, 0, 0, 0);
        edge.tells(x, "lean", x.lean(5, 0), 0, 0, 0, 0, 0);
        edge.tells(x, "lean", x.lean(5, 1), 0, 0, 0, 0, 0);
        edge.tells(x, "ahead", x.ahead(5, 0), 0, 0, 0, 0, 0);
        edge.tells(x, "ahead", x.ahead(5, 1), 200, 0, 0, 0, 0);
        edge.tells(x, "fell", x.fell(0, 600, 5), 0, 0, 0, 0, 0);
        edge.tells(x, "chance", x.chance(0, 600, 5), -2, 0, 0, 0, 0);
        edge.tells(x, "stage", x.stage(0, 5, 0, 600, 0), 0);
        edge.is("keep", x.keep(2), true);
        edge.is("again", x.again(2), true);
    }

    private static RhymedThen texted(int signs) {
        RhymedThen x = Whole.some();
        Due.text(x, "abcdefgh" + "i".repeat(32));
        x.end(signs);
        return x;
    }

    private void sign() {
        edge.sentence(2, "Four signs come behind THE TEXT, of v the highest byte first: how many it has.");
        RhymedThen x = new RhymedThen();
        edge.is("the first four", x.sign(0x61626364), 4);
        edge.is("behind them", x.sign(0x65666768), 8);
        edge.is("word", x.word(), 0);
        edge.tells(x, "said", x.said(0, 0, 0, 0), 8, 0, 1, 2, 3, 4, 5, 6, 7);
        for (int p = 0; p < 4; p++) {
            for (int b : new int[] {0x00, 0x60, 0x71, 0x7F, 0x80, 0xE1, 0xFF}) {
                x.sign(0x61616161 & ~(255 << 24 - 8 * p) | b << 24 - 8 * p);
                edge.is("a byte " + b + " at " + p, x.word(), -1 - p);
            }
        }
        edge.is("zeros are signs, too", x.sign(0), 4);
        edge.is("zeros are signs, too", x.count(6), 4);
        edge.sentence(2, "Refused: there would be more than 40.");
        edge.is("36 and 4", texted(36).sign(0x61626364), 40);
        for (int n = 37; n <= 40; n++) {
            int had = n;
            edge.refused(n + " and 4", () -> texted(had), y -> y.sign(0x61626364));
        }
        RhymedThen all = new RhymedThen();
        for (int i = 1; i <= 10; i++) {
            edge.is("sign " + i, all.sign(0x61616161), 4 * i);
        }
        edge.is("sign 11", all.sign(0x61616161), -1);
        edge.is("count(6)", all.count(6), 40);
    }

    private void end() {
        edge.sentence(3, "THE TEXT has its first n signs alone: true;");
        for (int n = 0; n <= 3; n++) {
            RhymedThen x = Whole.some();
            edge.is("end(" + n + ")", x.end(n), true);
            edge.is("count(6)", x.count(6), n);
            edge.is("the word", x.word(), n == 0 ? -1 : 4);
            edge.is("its sounds", x.said(4, 0, 0, 0), n == 0 ? -1 : n);
        }
        edge.is("all 40", texted(40).end(40), true);
        edge.is("none of none", new RhymedThen().end(0), true);
        edge.sentence(3, "false if it has not so many, or n is below 0.");
        for (int n : new int[] {4, 5, Integer.MAX_VALUE, -1, -3, Integer.MIN_VALUE}) {
            edge.refused("end(" + n + ")", Whole::some, y -> Edge.yes(y.end(n)));
        }
        edge.refused("end(41)", () -> texted(40), y -> Edge.yes(y.end(41)));
        RhymedThen x = Whole.some();
        x.end(2);
        edge.is("what was cut off is gone", x.end(3), false);
        edge.is("count(6)", x.count(6), 2);
    }

    private void group() {
        edge.sentence(4, "CLASS 0 .. 5 becomes SOUNDS as bits (0 .. 65535): what it was. Refused: others.");
        edge.limits("group", Whole::some, (x, v) -> x.group(v[0], v[1]), new int[] {2, 9},
            Edge.to(0, 5), Edge.to(0, 65535));
        RhymedThen x = new RhymedThen();
        for (int c = 0; c < 6; c++) {
            edge.is("at first", x.group(c, 65535), 0);
            edge.is("all", x.group(c, 1), 65535);
            edge.is("the first sound", x.group(c, 1 << 15), 1);
            edge.is("the last sound", x.group(c, 0), 1 << 15);
            edge.is("none", x.group(c, c + 1), 0);
        }
        for (int c = 0; c < 6; c++) {
            edge.is("each for itself", x.group(c, 0), c + 1);
        }
    }

    /** A text that makes no word or law leaves all as it was, but THE TEXT is empty. */
    private void emptied(String text, long want, Edge.Call call) {
        RhymedThen x = Whole.some();
        Due.text(x, text);
        RhymedThen y = Whole.some();
        y.end(0);
        edge.is("text " + text, call.on(x), want);
        edge.same("text " + text, x, y);
    }

    private void word() {
        edge.sentence(5, "THE TEXT, which is empty then, is a WORD: its number.");
        RhymedThen x = new RhymedThen();
        edge.is("the first", Due.word(x, "a"), 0);
        edge.is("the text is empty", x.count(6), 0);
        edge.is("the second", Due.word(x, "abcdefgh"), 1);
        edge.is("the text is empty", x.count(6), 0);
        edge.is("the text is empty", x.word(), -1);
        edge.sentence(5, "-1 - p: the sign at p can't stand there (its end, if it is empty; 8, if it has more);");
        emptied("", -1, RhymedThen::word);
        for (int p = 0; p < 8; p++) {
            emptied("abcdefgh".substring(0, p) + "q", -1 - p, RhymedThen::word);
            emptied("abcdefgh".substring(0, p) + "q" + "abcdefgh".substring(p + 1), -1 - p, RhymedThen::word);
            emptied("abcdefgh".substring(0, p) + "#" + "q".repeat(39 - p), -1 - p, RhymedThen::word);
        }
        for (char c = 0; c < 256; c++) {
            edge.is("sign " + (int) c, Due.word(new RhymedThen(), "a" + c), c >= 'a' && c <= 'p' ? 0 : -2);
        }
        emptied("abcdefgha", -9, RhymedThen::word);
        emptied("abcdefghq", -9, RhymedThen::word);
        emptied("abcdefgha" + "a".repeat(31), -9, RhymedThen::word);
    }

    private static RhymedThen twentyWords(String text) {
        RhymedThen x = Whole.some();
        for (int w = x.count(0); w < 20; w++) {
            Due.word(x, "cab");
        }
        Due.text(x, text);
        return x;
    }

    private void wordAtItsLimit() {
        edge.sentence(5, "-100: there are 20 (asked first).");
        RhymedThen x = new RhymedThen();
        for (int w = 0; w < 19; w++) {
            Due.word(x, "a");
        }
        edge.is("word 19 has no text", x.word(), -1);
        edge.is("word 19", Due.word(x, "p"), 19);
        for (String text : new String[] {"a", "", "q", "abcdefghi"}) {
            RhymedThen y = twentyWords(text);
            edge.is("word 20: " + text, y.word(), -100);
            edge.is("the text is empty", y.count(6), 0);
            edge.same("word 20: " + text, y, twentyWords(""));
        }
    }

    private void lawTexts() {
        edge.sentence(6, "THE TEXT, which is empty then, is a LAW with YEARS from first to last by step: its number.");
        RhymedThen x = new RhymedThen();
        edge.is("the first", Due.law(x, "a>", 10, 29, 10), 0);
        edge.is("the text is empty", x.count(6), 0);
        edge.is("the second", Due.law(x, "a>b/c_d", 10, 30, 10), 1);
        edge.is("the text is empty", x.count(6), 0);
        edge.is("2 years by 3", x.count(2), 6);
        edge.is("the last year is not above the last told", x.year(0, 5), 20);
        edge.is("the last year told", x.year(1, 5), 30);
        edge.sentence(6, "-1 - p: the sign at p can't stand there (its end, if it ends too early; 20, if it has more "
            + "and the first 20 could go on or end);");
        String[] early = {"", "a", "A", "a>/", "a>b/", "a>/c", "a>b/c", "a>b/C", "a>b/#"};
        for (String text : early) {
            emptied(text, -1 - text.length(), y -> y.law(0, 0, 1));
        }
        String[] upTo = {"", "a", "a>", "a>b", "a>b/", "a>b/c", "a>b/c_", "a>b/c_d", "a>/", "a>/_", "a>/_d", "a>/c_"};
        String[] can = {"aA", ">", "a/", "/", "aA#_", "_", "aA#", "", "aA#_", "aA#", "", "aA#"};
        for (int i = 0; i < upTo.length; i++) {
            for (char c = 0; c < 256; c++) {
                boolean stands = can[i].indexOf(c) >= 0 || c >= 'a' && c <= 'p' && can[i].indexOf('a') >= 0
                    || c >= 'A' && c <= 'F' && can[i].indexOf('A') >= 0;
                if (stands) {
                    edge.is("law " + upTo[i] + c + " goes on or ends", lawOf(upTo[i] + c) < -1 - upTo[i].length()
                        || lawOf(upTo[i] + c) == 0, true);
                } else {
                    emptied(upTo[i] + c, -1 - upTo[i].length(), y -> y.law(0, 0, 1));
                    emptied(upTo[i] + c + "a>b/c_d", -1 - upTo[i].length(), y -> y.law(0, 0, 1));
                }
            }
        }
        for (int signs : new int[] {8, 19, 20, 21, 40}) {
            emptied("a>b/c_d" + "d".repeat(signs - 7), -8, y -> y.law(0, 0, 1));
        }
        String[] fine = {"a>", "a>b", "a>/_", "a>b/_", "a>b/c_", "a>b/_c", "a>b/#_#", "F>p/A_F", "p>a/p_a"};
        for (String text : fine) {
            edge.is("law " + text, Due.law(Whole.some(), text, 0, 0, 1), 2);
        }
    }

    private static int lawOf(String text) {
        return Due.law(new RhymedThen(), text, 0, 0, 1);
    }

    private void yearsAre(int first, int last, int step, long want) {
        if (want < 0) {
            emptied("a>b", want, y -> y.law(first, last, step));
        } else {
            edge.is("years " + first + " " + last + " " + step, Due.law(Whole.some(), "a>b", first, last, step), want);
        }
    }

    private void lawYears() {
        edge.sentence(6, "-101: others (first, last 0 .. 400, last not below first, step 1 at least, at most 8 "
            + "YEARS);");
        yearsAre(0, 0, 1, 2);
        yearsAre(-1, 0, 1, -101);
        yearsAre(Integer.MIN_VALUE, 0, 1, -101);
        yearsAre(Integer.MIN_VALUE, Integer.MAX_VALUE, 1, -101);
        yearsAre(400, 400, 1, 2);
        yearsAre(393, 400, 1, 2);
        yearsAre(393, 401, 8, -101);
        yearsAre(401, 401, 1, -101);
        yearsAre(401, 400, 1, -101);
        yearsAre(0, Integer.MAX_VALUE, Integer.MAX_VALUE, -101);
        yearsAre(5, 5, 1, 2);
        yearsAre(5, 4, 1, -101);
        yearsAre(5, 4, 2, -101);
        yearsAre(5, 4, Integer.MAX_VALUE, -101);
        yearsAre(1, 0, 1, -101);
        yearsAre(400, 0, 401, -101);
        yearsAre(0, -1, 1, -101);
        yearsAre(0, Integer.MIN_VALUE, 1, -101);
        yearsAre(0, 0, 0, -101);
        yearsAre(0, 0, -1, -101);
        yearsAre(0, 7, 0, -101);
        yearsAre(0, 7, -1, -101);
        yearsAre(0, 0, Integer.MIN_VALUE, -101);
        yearsAre(0, 400, Integer.MAX_VALUE, 2);
        yearsAre(0, 7, 1, 2);
        yearsAre(0, 8, 1, -101);
        yearsAre(0, 399, 50, 2);
        yearsAre(0, 400, 50, -101);
        yearsAre(0, 400, 1, -101);
    }

    /** 512 histories, so many laws. */
    private static RhymedThen lawful(int laws, String text) {
        RhymedThen x = new RhymedThen();
        for (int l = 0; l < laws; l++) {
            Due.law(x, "a>b", 0, l < 3 ? 7 : 0, 1);
        }
        Due.text(x, text);
        return x;
    }

    private void lawfulIs(int laws, String text, int last, long want) {
        RhymedThen x = lawful(laws, text);
        edge.is(laws + " laws, " + text + " to " + last, x.law(0, last, 1), want);
        edge.is("the text is empty", x.count(6), 0);
        if (want < 0) {
            edge.same(laws + " laws, " + text + " to " + last, x, lawful(laws, ""));
        }
    }

    private void lawAsksInOrder() {
        edge.sentence(6, "-100: there are 6;");
        lawfulIs(5, "a>b", 0, 5);
        lawfulIs(6, "a>b", 0, -100);
        edge.sentence(6, "-102: there would be more than 600 HISTORIES");
        lawfulIs(3, "a>b", 0, 3);
        lawfulIs(3, "a>b", 1, -102);
        for (int last : new int[] {4, 5}) {
            RhymedThen x = new RhymedThen();
            Due.law(x, "a>b", 0, 4, 1);
            Due.law(x, "a>b", 0, 4, 1);
            Due.law(x, "a>b", 0, 3, 1);
            edge.is("100 by " + (last + 2), Due.law(x, "a>b", 0, last + 1, 1), last == 4 ? 3 : -102);
        }
        edge.sentence(6, "(these three asked first, in this order)");
        lawfulIs(6, "q", 8, -100);
        lawfulIs(6, "", -1, -100);
        lawfulIs(6, "a>b", 1, -100);
        lawfulIs(3, "q", 8, -101);
        lawfulIs(3, "", -1, -101);
        lawfulIs(3, "q", 1, -102);
        lawfulIs(3, "", 1, -102);
        lawfulIs(3, "q", 0, -1);
        lawfulIs(3, "", 0, -1);
    }

    private void lag() {
        edge.sentence(7, "LAG of a PLACE becomes v: what it was. Refused: others.");
        edge.limits("lag", Whole::some, (x, v) -> x.lag(v[0], v[1]), new int[] {2, 9}, Edge.to(0, 5), Edge.to(0, 200));
        RhymedThen x = new RhymedThen();
        for (int p = 0; p < 6; p++) {
            edge.is("at first", x.lag(p, 200), 0);
            edge.is("the greatest", x.lag(p, 0), 200);
            edge.is("the least", x.lag(p, p + 1), 0);
        }
        for (int p = 0; p < 6; p++) {
            edge.is("each for itself", x.lag(p, 0), p + 1);
        }
    }

    private void lagsAre(int kind, int n, int f, int step, int... want) {
        RhymedThen x = Whole.some();
        int sum = 0;
        for (int v : want) {
            sum += v;
        }
        String call = "lags(" + kind + ", " + n + ", " + f + ", " + step + ")";
        edge.is(call, x.lags(kind, n, f, step), sum);
        for (int p = 0; p < 6; p++) {
            edge.is(call + " at " + p, x.lag(p, 0), p < want.length ? want[p] : 0);
        }
    }

    private void lagsOfKinds() {
        edge.sentence(8, "bytes (kind 0), shorts (1), ints (2) of n entries f, f + step, .. (of bytes, shorts the "
            + "lowest bits, with their sign; below 0: 0, above 200: 200)");
        lagsAre(0, 2, 127, 1, 127, 0);
        lagsAre(0, 3, 255, 1, 0, 0, 1);
        lagsAre(0, 3, -128, 255, 0, 127, 126);
        lagsAre(0, 2, 256 + 127, 0, 127, 127);
        lagsAre(0, 1, Integer.MAX_VALUE, 0, 0);
        lagsAre(0, 2, Integer.MIN_VALUE, 1, 0, 1);
        lagsAre(1, 3, 199, 1, 199, 200, 200);
        lagsAre(1, 3, -1, 1, 0, 0, 1);
        lagsAre(1, 2, 32767, 1, 200, 0);
        lagsAre(1, 2, 65535, 1, 0, 0);
        lagsAre(1, 2, 65536 + 5, 65536, 5, 5);
        lagsAre(2, 3, 199, 1, 199, 200, 200);
        lagsAre(2, 3, -1, 1, 0, 0, 1);
        lagsAre(2, 2, 32767, 1, 200, 200);
        lagsAre(2, 2, 65536 + 5, 65536, 200, 200);
        lagsAre(2, 2, Integer.MAX_VALUE, 1, 200, 0);
        lagsAre(2, 2, Integer.MIN_VALUE, -1, 0, 200);
        edge.sentence(8, "or a missing one (3): PLACES behind it have 0: the sum of all.");
        for (int kind = 0; kind < 3; kind++) {
            lagsAre(kind, 0, 9, 9);
            lagsAre(kind, 1, 9, 9, 9);
            lagsAre(kind, 5, 9, 9, 9, 18, 27, 36, 45);
            lagsAre(kind, 6, 9, 9, 9, 18, 27, 36, 45, 54);
        }
        lagsAre(2, 6, 200, 0, 200, 200, 200, 200, 200, 200);
    }

    private void lagsRefused() {
        edge.sentence(8, "-2: n below 0 (of kinds 0 .. 2; nothing changes);");
        for (int kind = 0; kind < 3; kind++) {
            int k = kind;
            edge.leaves("n -1 of kind " + k, Whole::some, -2, x -> x.lags(k, -1, 9, 9));
            edge.leaves("the least n of kind " + k, Whole::some, -2, x -> x.lags(k, Integer.MIN_VALUE, 9, 9));
        }
        edge.sentence(8, "-3: missing (all 0).");
        for (int n : new int[] {0, 6, -1, Integer.MIN_VALUE}) {
            RhymedThen x = Whole.some();
            edge.is("lags(3, " + n + ")", x.lags(3, n, 9, 9), -3);
            for (int p = 0; p < 6; p++) {
                edge.is("lag at " + p, x.lag(p, 0), 0);
            }
        }
        edge.sentence(8, "NONE: another kind, n above 6 (these first).");
        for (int kind : new int[] {-1, 4, Integer.MIN_VALUE, Integer.MAX_VALUE}) {
            for (int n : new int[] {0, 6, 7, -1}) {
                edge.refused("kind " + kind + ", n " + n, Whole::some, x -> x.lags(kind, n, 9, 9));
            }
        }
        for (int kind = 0; kind < 4; kind++) {
            int k = kind;
            edge.refused("n 7 of kind " + k, Whole::some, x -> x.lags(k, 7, 9, 9));
            edge.refused("the greatest n of kind " + k, Whole::some, x -> x.lags(k, Integer.MAX_VALUE, 9, 9));
        }
    }
}
