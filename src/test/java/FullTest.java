import java.lang.reflect.InvocationTargetException;
import java.lang.reflect.Method;
import java.util.NoSuchElementException;
import java.util.Random;

/** An object at every limit of the document, each call with arguments at their edges: none throws but row. */
public final class FullTest {
    private static final int[] EDGES = {0, 1, 5, 6, 15, 16, 19, 20, 127, 128, 200, 599, 600, 601, -1, 65535,
        Integer.MAX_VALUE, Integer.MIN_VALUE};
    private static final Random chance = new Random(7);

    public static void main(String[] args) throws Exception {
        RhymedThen x = new RhymedThen();
        x.group(0, Due.bits("aei"));
        x.group(1, Due.bits("bcdp"));
        for (int i = 0; i < 20; i++) {
            Due.word(x, "abcdeiabcdeip".substring(i % 6, i % 6 + 8));
        }
        String[] laws = {"a>e/B_", "e>i/_B", "i>a/A_", "b>c", "c>p/_#", "B>/A_B"};
        int[] many = {5, 5, 6, 4, 1, 1};
        for (int i = 0; i < 6; i++) {
            Due.law(x, laws[i], 400 - 50 * (many[i] - 1), 400, 50);
        }
        for (int i = 0; i < 16; i++) {
            x.mark(i % 5, 19 - i, i, 37 * i, i % 6, i % 8);
            x.turn(i, i % 2 == 0);
        }
        x.lags(2, 6, 200, -1);
        Due due = new Due();
        int[] full = {20, 6, 600, 16};
        for (int what = 0; what < full.length; what++) {
            due.is("count(" + what + ")", x.count(what), full[what]);
        }
        due.finish();
        for (Method m : RhymedThen.class.getDeclaredMethods()) {
            boolean face = java.lang.reflect.Modifier.isPublic(m.getModifiers());
            for (int i = 0; i < 60 && face; i++) {
                callAtEdges(x, m);
            }
        }
    }

    private static void callAtEdges(RhymedThen x, Method m) throws Exception {
        Class<?>[] types = m.getParameterTypes();
        Object[] values = new Object[types.length];
        for (int i = 0; i < values.length; i++) {
            // the first three are in most bounds, so that a call gets behind its checks
            int bound = chance.nextInt(3) > 0 ? 3 : EDGES.length;
            values[i] = types[i] == boolean.class ? (Object) chance.nextBoolean() : EDGES[chance.nextInt(bound)];
        }
        try {
            m.invoke(x, values);
        } catch (InvocationTargetException thrown) {
            boolean fine = m.getName().equals("row") && thrown.getCause() instanceof NoSuchElementException;
            if (!fine) {
                System.out.println(m.getName() + java.util.Arrays.toString(values) + " threw " + thrown.getCause());
                System.exit(1);
            }
        }
    }
}
