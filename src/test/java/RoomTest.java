import java.lang.management.ManagementFactory;

/** One room for all calls of a run: what objects and calls make is counted in bytes. */
public final class RoomTest {
    private static final com.sun.management.ThreadMXBean COUNTER =
        (com.sun.management.ThreadMXBean) ManagementFactory.getThreadMXBean();
    // 7.3 million elements: of 512 new objects each may have some 14,000
    private static final long MOST_OF_NEW = 8 * 14_000;
    private static final long MOST_OF_RUN = 8 * 120_000;

    public static void main(String[] args) {
        new RhymedThen();
        long before = bytes();
        RhymedThen x = new RhymedThen();
        must(bytes() - before, MOST_OF_NEW, "a new object");
        build(x);
        before = bytes();
        for (int i = 0; i < 400; i++) {
            dearCall(x, i);
        }
        must(bytes() - before, MOST_OF_RUN, "400 dear calls");
    }

    private static void build(RhymedThen x) {
        x.group(0, Due.bits("aei"));
        x.group(1, Due.bits("bcd"));
        for (int i = 0; i < 20; i++) {
            Due.word(x, "abcdeiab".substring(i % 4) + "abcdeiba".substring(8 - i % 4));
        }
        String[] laws = {"a>e/B_", "e>i/_B", "i>a/A_", "b>c", "c>d/_#", "B>/A_B"};
        int[] many = {3, 3, 3, 3, 3, 2};
        for (int i = 0; i < 6; i++) {
            Due.law(x, laws[i], 10 + i, 10 + i + 50 * (many[i] - 1), 50);
        }
        for (int i = 0; i < 16; i++) {
            x.mark(i % 5, i, i + 1, 20 + 10 * i, i % 6, i % 8);
            x.turn(i, i % 3 == 0);
        }
    }

    private static void dearCall(RhymedThen x, int i) {
        switch (i % 10) {
            case 0: x.group(1, Due.bits(i % 20 == 0 ? "bcd" : "bcde")); break;
            case 1: x.fits(); break;
            case 2: x.least(); break;
            case 3: x.ahead(i % 6, 1); break;
            case 4: x.right(i, 300, 0); break;
            case 5: x.settled(i % 20, 1); break;
            case 6: x.look(200, i % 6); break;
            case 7: x.stage(i, 0, 20, 100, 300); break;
            case 8: x.might(0, 0, 1, 200, 0, 0); break;
            default: x.keep(0); x.again(0); break;
        }
    }

    private static long bytes() {
        return COUNTER.getThreadAllocatedBytes(Thread.currentThread().getId());
    }

    private static void must(long bytes, long most, String what) {
        if (bytes > most) {
            System.out.println(what + " took " + bytes + " bytes, at most " + most + " are due");
            System.exit(1);
        }
    }
}
