import java.util.ArrayList;
import java.util.List;

/** Objects with something of all there is, and all that can be told of an object. */
final class Whole {
    private Whole() {
    }

    /** Due.beds() with lags, signs by poets, one of them off, something kept, a ROW and a TEXT; history 1 fits. */
    static RhymedThen some() {
        RhymedThen x = Due.beds();
        x.group(5, Due.bits("p"));
        x.lag(1, 20);
        x.lag(5, 200);
        signs(x);
        x.turn(1, false);
        x.keep(1);
        x.lag(2, 30);
        x.group(1, Due.bits("b"));
        x.by(2, 4, 2);
        x.said(0, 1, 200, 0);
        Due.text(x, "abc");
        return x;
    }

    /** Signs 0 and 2 hold by history 1 alone, 1 by history 0 alone, 3 by both. */
    private static void signs(RhymedThen x) {
        x.mark(0, 0, 1, 120, 0, 0);
        x.mark(3, 1, 0, 120, 0, 16 + 3);
        x.mark(1, 0, 1, 120, 0, 0);
        x.mark(4, 0, 3, 0, 3, 0);
        x.by(0, 2, 9);
        x.by(1, 0, 3);
        x.by(2, 5, 1);
    }

    /** some(), but no history fits. */
    static RhymedThen unfit() {
        RhymedThen x = some();
        x.turn(1, true);
        return x;
    }

    /** some() with 16 signs, so many of them on, as far as they go from the last one down. */
    static RhymedThen signed(int on) {
        RhymedThen x = some();
        for (int s = x.count(3); s < 16; s++) {
            x.mark(2, 2, 0, 0, 0, 0);
        }
        for (int s = 0; s < 16; s++) {
            x.turn(s, s >= 16 - on);
        }
        return x;
    }

    /** All that an object answers, and what it would do with THE TEXT; the object is not to be used then. */
    static List<String> tellAll(RhymedThen x) {
        List<String> all = new ArrayList<>();
        all.add("ROW " + Due.rowOf(x));
        for (int what = 0; what < 7; what++) {
            all.add("count(" + what + ") " + x.count(what));
        }
        tellSettings(x, all);
        tellWords(x, all);
        tellSigns(x, all);
        for (int i = 0; i < 3; i++) {
            all.add("again(" + i + ") " + x.again(i));
            tellSettings(x, all);
            tellSigns(x, all);
        }
        tellText(x, all);
        return all;
    }

    private static void tellSettings(RhymedThen x, List<String> all) {
        for (int i = 0; i < 6; i++) {
            int bits = x.group(i, 0);
            x.group(i, bits);
            int lag = x.lag(i, 0);
            x.lag(i, lag);
            all.add("class " + i + " " + bits + ", lag " + lag);
        }
        all.add("on " + x.count(4));
    }

    private static void tellWords(RhymedThen x, List<String> all) {
        int last = x.count(2) - 1;
        for (int l = 0; l < x.count(1); l++) {
            all.add("year(" + l + ") " + x.year(l, 0) + " " + x.year(l, last));
        }
        for (int w = 0; w < x.count(0); w++) {
            all.add("said(" + w + ") " + x.said(w, last, 300, 0) + Due.rowOf(x));
        }
    }

    /** A sign's trust is seen by the odds with that sign alone on. */
    private static void tellSigns(RhymedThen x, List<String> all) {
        int on = x.count(4);
        for (int s = 0; s < x.count(3); s++) {
            x.turn(s, false);
        }
        for (int s = 0; s < x.count(3); s++) {
            x.turn(s, true);
            all.add("sign " + s + " " + x.holds(s, 0) + x.holds(s, x.count(2) - 1) + x.likely() + Due.rowOf(x));
            x.turn(s, false);
        }
        for (int s = 0; s < x.count(3); s++) {
            x.turn(s, (on >> s & 1) != 0);
        }
        for (int poet = 0; poet < 6; poet++) {
            all.add("eye(" + poet + ") " + x.eye(poet, 0) + Due.rowOf(x));
        }
    }

    private static void tellText(RhymedThen x, List<String> all) {
        boolean room = x.count(0) < 20;
        all.add("what THE TEXT makes " + (room ? x.word() : x.law(0, 0, 1)));
        tellWords(x, all);
    }
}
