import java.io.IOException;
import java.lang.reflect.Method;
import java.lang.reflect.Modifier;
import java.nio.file.Files;
import java.nio.file.Path;

/** README.md tells the truth: its example is made here line by line, and its table names every call. */
public final class ReadmeTest {
    private final Due due = new Due();
    private final String page;
    private int from = 0;

    private ReadmeTest(String page) {
        this.page = page;
    }

    public static void main(String[] args) throws IOException {
        ReadmeTest test = new ReadmeTest(Files.readString(Path.of("README.md")).replaceAll("\\s+", " "));
        test.example();
        test.table();
        test.due.finish();
    }

    private void example() {
        due.about("README.md, the example");
        RhymedThen x = new RhymedThen();
        line("x.group(0, 0b10001);", x.group(0, 0b10001), 0);
        line("x.sign(0x62616400);", x.sign(0x62616400), 4);
        line("x.end(3);", x.end(3));
        int bad = x.word();
        line("int bad = x.word();", bad, 0);
        line("x.sign(0x62656400);", x.sign(0x62656400), 4);
        line("x.end(3);", x.end(3));
        int bed = x.word();
        line("int bed = x.word();", bed, 1);
        line("x.sign(0x613e652f);", x.sign(0x613e652f), 4);
        line("x.sign(0x625f0000);", x.sign(0x625f0000), 8);
        line("x.end(6);", x.end(6));
        line("x.law(100, 150, 50);", x.law(100, 150, 50), 0);
        line("x.count(2);", x.count(2), 2);
        line("x.mark(0, bad, bed, 120, 0, 0);", x.mark(0, bad, bed, 120, 0, 0), 0);
        line("x.fits();", x.fits(), 1);
        line("x.count(5);", x.count(5), 1);
        line("x.row(0);", x.row(0), 0);
        line("x.span(0, 1);", x.span(0, 1), 100);
        line("x.said(bad, 0, 120, 0);", x.said(bad, 0, 120, 0), 3);
        line("x.row(1);", x.row(1), 4);
        line("x.said(bad, 2, 120, 0);", x.said(bad, 2, 120, 0), -1);
        line("x.row(1);", x.row(1), 4);
        due.is("the example has no more lines", page.startsWith(" ```", lineEnd()), true);
    }

    /** The page tells this line behind the one before, with this answer; and so it answers. */
    private void line(String code, long got, long want) {
        tells(code + " // " + want);
        due.is(code, got, want);
    }

    private void line(String code, boolean got) {
        tells(code + " // true");
        due.is(code, got, true);
    }

    private void tells(String words) {
        int at = page.indexOf(words, from);
        due.is("the page says: " + words, at >= 0, true);
        from = at < 0 ? from : at + words.length();
    }

    /** Where the last line that was told ends: its words go on to the next statement or to the end of the block. */
    private int lineEnd() {
        int block = page.indexOf(" ```", from);
        int statement = page.indexOf("x.", from);
        return statement >= 0 && statement < block ? statement : block;
    }

    private void table() {
        due.about("README.md, the table");
        String rows = page.substring(page.indexOf("| calls |"));
        for (Method m : RhymedThen.class.getDeclaredMethods()) {
            if (Modifier.isPublic(m.getModifiers())) {
                due.is("it names " + m.getName(), rows.contains("`" + m.getName() + "`"), true);
            }
        }
    }
}
