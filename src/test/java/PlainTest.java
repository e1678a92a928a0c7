import java.lang.reflect.Method;
import java.util.ArrayList;
import java.util.HashMap;
import java.util.List;
import java.util.Map;
import java.util.NoSuchElementException;
import java.util.Random;

/** Many runs of calls by chance (always the same ones), each answer and ROW held against Plain. */
public final class PlainTest {
    private static final String[] CALLS = {
        // a letter an argument: see draw()
        "sign t", "end e", "group gB", "word", "law YYx", "lag pv", "lags Lnfx",
        "said whyp", "changes whp", "alike wwhyp", "one wwhp", "rhymes whyp", "chance hyp", "works lhyp",
        "mark kwwypN", "by soT", "turn sb", "holds sh", "fits", "span l2", "order ll", "wrong", "blunder",
        "sure wyp", "shows lh", "least", "odds s", "then wyp", "right hyp", "likely", "next", "eye oh",
        "lean o2", "ahead p2", "stage hpyyy", "might kwwypN", "look yp", "settled wp", "fell hyp",
        "town whyp", "swap llhyp", "keep i", "again i", "count c", "year lh",
    };

    private final Random chance;
    private final RhymedThen x = new RhymedThen();
    private final Plain plain = new Plain();
    private final List<String> told = new ArrayList<>();
    private final Map<String, Method> ours = new HashMap<>();
    private final Map<String, Method> plains = new HashMap<>();
    private int faults = 0;
    // most signs are told so that this history fits
    private int hidden = 0;

    private PlainTest(long seed) {
        chance = new Random(seed);
        for (Method m : RhymedThen.class.getMethods()) {
            ours.put(m.getName(), m);
        }
        for (Method m : Plain.class.getMethods()) {
            plains.put(m.getName(), m);
        }
    }

    public static void main(String[] args) throws Exception {
        int runs = args.length > 0 ? Integer.parseInt(args[0]) : 300;
        int from = args.length > 1 ? Integer.parseInt(args[1]) : 0;
        int faults = 0;
        for (int run = from; run < from + runs && faults == 0; run++) {
            PlainTest test = new PlainTest(run);
            test.build(run % 10 == 9 ? 600 : 40, run % 4);
            test.go(run % 10 == 9 ? 60 : 250);
            if (test.faults > 0) {
                System.out.println("run " + run + ":");
                test.told.forEach(System.out::println);
            }
            faults += test.faults;
        }
        System.exit(faults == 0 ? 0 : 1);
    }

    /** A world with words, laws and signs that mostly go together. */
    private void build(int histories, int style) throws Exception {
        call("group", 0, 1 + 16 + 256);
        for (int c = 1; c < 6; c++) {
            call("group", c, chance.nextInt(4) == 0 ? 0 : chance.nextInt(65536) & 0x1FF);
        }
        int words = style == 0 ? chance.nextInt(4) : 3 + chance.nextInt(style == 3 ? 17 : 6);
        for (int i = 0; i < words; i++) {
            text(sounds(1 + chance.nextInt(style == 1 ? 8 : 4)));
            call("word");
        }
        int laws = chance.nextInt(7);
        for (int i = 0; i < laws; i++) {
            text(lawText());
            int room = histories / Math.max(1, x.count(2));
            int many = Math.min(room, 1 + chance.nextInt(histories > 100 ? 4 : 3));
            int step = 1 + chance.nextInt(4) * chance.nextInt(30);
            int first = chance.nextInt(3) == 0 ? 0 : chance.nextInt(200);
            call("law", first, first + step * Math.max(0, many - 1), step);
        }
        for (int i = 0; i < 6; i++) {
            call("lag", i, chance.nextInt(3) == 0 ? chance.nextInt(201) : chance.nextInt(3) * 10);
        }
        int signs = x.count(0) < 2 ? 0 : chance.nextInt(17);
        hidden = chance.nextInt(x.count(2));
        for (int i = 0; i < signs; i++) {
            signOfHidden();
        }
    }

    /** A sign that holds by the hidden history, but for a few, and those are mostly turned off. */
    private void signOfHidden() throws Exception {
        boolean so = chance.nextInt(6) > 0;
        for (int tries = 0; tries < 100; tries++) {
            int kind = chance.nextInt(5);
            int[] v = {kind, chance.nextInt(x.count(0)), chance.nextInt(x.count(0)),
                chance.nextInt(601), chance.nextInt(6), chance.nextInt(kind == 3 ? 80 : 5)};
            if (plain.wouldHold(v, hidden) == (so ? 1 : 0)) {
                call("mark", v[0], v[1], v[2], v[3], v[4], v[5]);
                int number = x.count(3) - 1;
                call("by", number, chance.nextInt(3), 1 + chance.nextInt(9));
                call("turn", number, so ? chance.nextInt(3) > 0 : chance.nextInt(8) == 0);
                return;
            }
        }
    }

    private String sounds(int n) {
        StringBuilder made = new StringBuilder();
        for (int i = 0; i < n; i++) {
            made.append("aeibcd".charAt(chance.nextInt(6)));
        }
        return made.toString();
    }

    private String lawText() {
        String made = pick("aeibcdABCD") + ">" + (chance.nextInt(4) == 0 ? "" : pick("aeibcd"));
        if (chance.nextInt(3) > 0) {
            made += "/" + (chance.nextInt(2) == 0 ? "" : pick("aeibcdABC#")) + "_"
                + (chance.nextInt(2) == 0 ? "" : pick("aeibcdABC#"));
        }
        if (chance.nextInt(25) == 0) {
            int at = chance.nextInt(made.length() + 1);
            made = made.substring(0, at) + pick("a>/_#AGq") + made.substring(at);
        }
        if (chance.nextInt(25) == 0) {
            made = made.substring(0, chance.nextInt(made.length() + 1));
        }
        return made;
    }

    private String pick(String from) {
        int at = chance.nextInt(from.length());
        return from.substring(at, at + 1);
    }

    private void text(String t) throws Exception {
        for (int i = 0; i < t.length(); i += 4) {
            int v = 0;
            for (int j = i; j < i + 4; j++) {
                v = v << 8 | (j < t.length() ? t.charAt(j) : 0);
            }
            call("sign", v);
        }
        call("end", t.length());
    }

    private void go(int calls) throws Exception {
        for (int i = 0; i < calls && faults == 0; i++) {
            String[] form = CALLS[chance.nextInt(CALLS.length)].split(" ");
            boolean rare = List.of("group", "lags", "lag", "sign", "law", "turn", "mark").contains(form[0]);
            if (rare && chance.nextInt(8) > 0) {
                continue;
            }
            if (form[0].equals("law") || form[0].equals("word")) {
                text(chance.nextInt(6) == 0 ? lawText() : form[0].equals("law") ? lawText() : sounds(chance.nextInt(10)));
            }
            String kinds = form.length > 1 ? form[1] : "";
            Object[] values = new Object[kinds.length()];
            for (int k = 0; k < values.length; k++) {
                values[k] = draw(kinds.charAt(k));
            }
            call(form[0], values);
        }
    }

    private Object draw(char kind) {
        if (kind != 'b' && chance.nextInt(60) == 0) {
            int[] odd = {-1, -2, 6, 7, 16, 20, 600, 601, 400, 401, Integer.MAX_VALUE, Integer.MIN_VALUE};
            return odd[chance.nextInt(odd.length)];
        }
        switch (kind) {
            case 'w': return chance.nextInt(Math.max(1, x.count(0)));
            case 'h': return chance.nextInt(x.count(2));
            case 'y': return chance.nextInt(3) == 0 ? chance.nextInt(61) * 10 : chance.nextInt(601);
            case 'p': case 'g': return chance.nextInt(6);
            case 'l': return chance.nextInt(Math.max(1, x.count(1)));
            case 's': return chance.nextInt(Math.max(1, x.count(3)));
            case 'o': return chance.nextInt(3);
            case 'k': return chance.nextInt(5);
            case 'T': return 1 + chance.nextInt(9);
            case 'N': return chance.nextInt(chance.nextBoolean() ? 5 : 128);
            case '2': return chance.nextInt(2);
            case 'v': return chance.nextInt(201);
            case 'B': return chance.nextInt(65536) & (chance.nextBoolean() ? 0x1FF : 0x111);
            case 'Y': return chance.nextInt(401);
            case 'x': return chance.nextInt(100);
            case 'L': return chance.nextInt(4);
            case 'n': return chance.nextInt(9) - 1;
            case 'f': return chance.nextInt(70000) - 300;
            case 'i': return chance.nextInt(3);
            case 'c': return chance.nextInt(7);
            case 'e': return chance.nextInt(42) - 1;
            case 'b': return chance.nextBoolean();
            default: return chance.nextInt();
        }
    }

    private void call(String name, Object... values) throws Exception {
        Object want = plains.get(name).invoke(plain, values);
        Object got = ours.get(name).invoke(x, values);
        told.add(name + java.util.Arrays.toString(values) + " = " + got + ", row " + rowOf());
        if (!want.equals(got) || !plain.rowNow().equals(rowOf())) {
            faults++;
            told.add("due: " + want + ", row " + plain.rowNow());
        }
    }

    private List<Long> rowOf() {
        List<Long> row = new ArrayList<>();
        try {
            for (int i = 0; i < 1000; i++) {
                row.add(x.row(i));
            }
        } catch (NoSuchElementException over) {
            return row;
        }
        return row;
    }
}
