import java.util.List;
import java.util.function.Supplier;

/** Holds answers at the edges against the document; each test quotes the sentence that it is about. */
final class Edge {
    /** Of an argument that may be whatever it is. */
    static final int[] WHATEVER = null;

    interface Call {
        long on(RhymedThen x);
    }

    interface Asked {
        long of(RhymedThen x, int[] v);
    }

    private final Document document;
    private final Due due;

    Edge(Document document, Due due) {
        this.document = document;
        this.due = due;
    }

    /** The next answers are about these words of the terms. */
    void term(String words) {
        sentence(Document.TERMS, words);
    }

    /** The next answers are about these words of a promise. */
    void sentence(int promise, String words) {
        due.about(Document.nameOf(promise) + " (" + words + ")");
        due.is("the document says so", document.quote(promise, words), true);
    }

    void is(String call, long got, long want) {
        due.is(call, got, want);
    }

    void is(String call, boolean got, boolean want) {
        due.is(call, got, want);
    }

    /** The answer, and the whole ROW behind it. */
    void tells(RhymedThen x, String call, long got, long want, long... row) {
        due.is(x, call, got, want, row);
    }

    /** A call answers this and leaves all as it was, the ROW and THE TEXT too. */
    void leaves(String what, Supplier<RhymedThen> made, long want, Call call) {
        RhymedThen x = made.get();
        due.is(what, call.on(x), want);
        same(what, x, made.get());
    }

    /** A call is refused, and changes nothing; yes() makes a boolean answer fit in here. */
    void refused(String what, Supplier<RhymedThen> made, Call call) {
        leaves(what, made, RhymedThen.NONE, call);
    }

    static long yes(boolean answer) {
        return answer ? 1 : RhymedThen.NONE;
    }

    /** Both objects are in every way alike. */
    void same(String what, RhymedThen x, RhymedThen y) {
        List<String> all = Whole.tellAll(x);
        List<String> asItWas = Whole.tellAll(y);
        for (int i = 0; i < Math.min(all.size(), asItWas.size()); i++) {
            String now = all.get(i);
            due.is(what + " leaves " + asItWas.get(i) + ", not " + now, now.equals(asItWas.get(i)), true);
        }
        due.is(what + " leaves as much", all.size(), asItWas.size());
    }

    /** Each argument for itself: at both ends of its range the call is taken, one further it is refused. */
    void limits(String name, Supplier<RhymedThen> made, Asked asked, int[] fine, int[]... ranges) {
        due.is(name + " has ranges for all", ranges.length, fine.length);
        for (int i = 0; i < ranges.length; i++) {
            if (ranges[i] == WHATEVER) {
                taken(name, made, asked, with(fine, i, Integer.MIN_VALUE));
                taken(name, made, asked, with(fine, i, -1));
                taken(name, made, asked, with(fine, i, Integer.MAX_VALUE));
            } else {
                taken(name, made, asked, with(fine, i, ranges[i][0]));
                taken(name, made, asked, with(fine, i, ranges[i][1]));
                notTaken(name, made, asked, with(fine, i, ranges[i][0] - 1));
                notTaken(name, made, asked, with(fine, i, ranges[i][1] + 1));
                notTaken(name, made, asked, with(fine, i, Integer.MIN_VALUE));
                notTaken(name, made, asked, with(fine, i, Integer.MAX_VALUE));
            }
        }
    }

    private static int[] with(int[] fine, int i, int v) {
        int[] changed = fine.clone();
        changed[i] = v;
        return changed;
    }

    private void taken(String name, Supplier<RhymedThen> made, Asked asked, int[] v) {
        due.is(told(name, v) + " is refused", asked.of(made.get(), v) == RhymedThen.NONE, false);
    }

    private void notTaken(String name, Supplier<RhymedThen> made, Asked asked, int[] v) {
        refused(told(name, v), made, x -> asked.of(x, v));
    }

    private static String told(String name, int[] v) {
        return name + java.util.Arrays.toString(v);
    }

    static int[] to(int first, int last) {
        return new int[] {first, last};
    }
}
