import java.util.ArrayList;
import java.util.Arrays;
import java.util.List;
import java.util.NoSuchElementException;

/** What the tests share: objects made from texts, and answers held against those that are due. */
final class Due {
    private int wrong = 0;
    private String about = "";

    /** Tells which promise the next answers are about. */
    void promise(int number) {
        about("promise " + number);
    }

    void about(String what) {
        about = what;
    }

    void is(String call, long got, long want) {
        if (got != want) {
            fault(call, Long.toString(got), Long.toString(want));
        }
    }

    void is(String call, boolean got, boolean want) {
        if (got != want) {
            fault(call, Boolean.toString(got), Boolean.toString(want));
        }
    }

    /** The answer, and the whole ROW behind it. */
    void is(RhymedThen x, String call, long got, long want, long... row) {
        is(call, got, want);
        row(x, call, row);
    }

    void row(RhymedThen x, String call, long... want) {
        List<Long> now = rowOf(x);
        long[] got = now.stream().mapToLong(n -> n).toArray();
        if (!Arrays.equals(got, want) || x.count(5) != want.length) {
            fault(call + " ROW", Arrays.toString(got), Arrays.toString(want));
        }
    }

    private void fault(String call, String got, String want) {
        wrong++;
        System.out.println(about + ": " + call + " answered " + got + ", due is " + want);
    }

    void finish() {
        if (wrong != 0) {
            System.out.println(wrong + " answers are not as due");
            System.exit(1);
        }
    }

    static List<Long> rowOf(RhymedThen x) {
        List<Long> row = new ArrayList<>();
        for (int i = 0; i < 1000; i++) {
            try {
                row.add(x.row(i));
            } catch (NoSuchElementException over) {
                return row;
            }
        }
        return row;
    }

    /** Whether row(i) throws what the document says, and no class below it. */
    static boolean throwsAt(RhymedThen x, int i) {
        try {
            x.row(i);
            return false;
        } catch (NoSuchElementException none) {
            return none.getClass() == NoSuchElementException.class;
        }
    }

    /** Makes THE TEXT this one. */
    static void text(RhymedThen x, String text) {
        x.end(0);
        for (int i = 0; i < text.length(); i += 4) {
            int v = 0;
            for (int j = i; j < i + 4; j++) {
                v = v << 8 | (j < text.length() ? text.charAt(j) : 0);
            }
            x.sign(v);
        }
        x.end(text.length());
    }

    static int word(RhymedThen x, String text) {
        text(x, text);
        return x.word();
    }

    static void words(RhymedThen x, String... texts) {
        for (String t : texts) {
            word(x, t);
        }
    }

    static int law(RhymedThen x, String text, int first, int last, int step) {
        text(x, text);
        return x.law(first, last, step);
    }

    /** The bits of these sounds. */
    static int bits(String sounds) {
        int bits = 0;
        for (char c : sounds.toCharArray()) {
            bits |= 1 << c - 'a';
        }
        return bits;
    }

    /** Vowels a, e; bad, bed, bid, dab; after b an a becomes e in 100, ahead of d an e is lost in 50 or 150. */
    static RhymedThen beds() {
        RhymedThen x = new RhymedThen();
        x.group(0, bits("ae"));
        words(x, "bad", "bed", "bid", "dab");
        law(x, "a>e/b_", 100, 100, 1);
        law(x, "e>/_d", 50, 150, 100);
        return x;
    }
}
