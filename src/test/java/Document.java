import java.io.IOException;
import java.nio.file.Files;
import java.nio.file.Path;
import java.util.ArrayList;
import java.util.List;
import java.util.regex.Matcher;
import java.util.regex.Pattern;

/** The document's terms (section 0) and promises (sections 1 to 47), and what of them tests have quoted. */
final class Document {
    static final int TERMS = 0;
    static final int PROMISES = 47;
    // words by which the document names an edge: a limit, a refusal, what is empty, full, first or left as it was
    private static final Pattern EDGES = Pattern.compile("Refused|NONE|-\\d+|\\d+ \\.\\. |\\bfalse\\b|\\b[Nn]one\\b"
        + "|[Nn]othing|No \\w+|no such|there are|at most|at least|more than|fewer|above|below|without|asked first"
        + "|of equal|of as many|unlike|missing|up to|too early|stays?\\b|empty|Exception: |never");

    private final boolean there;
    private final String[] sections = new String[PROMISES + 1];
    private final boolean[][] quoted = new boolean[PROMISES + 1][];

    /** Without a file nothing can be held against it: each quote is right then. */
    Document(Path path) throws IOException {
        there = Files.exists(path);
        if (there) {
            read(squeezed(Files.readString(path)));
        }
    }

    private void read(String whole) {
        sections[TERMS] = between(whole, "## Terms", "Ahead of the calls");
        for (int n = 1; n <= PROMISES; n++) {
            String promise = between(whole, "## Promise " + n + ": ", " ## ");
            sections[n] = promise.substring(promise.indexOf("`:") + 2);
        }
        for (int n = 0; n <= PROMISES; n++) {
            quoted[n] = new boolean[sections[n].length()];
        }
    }

    private static String squeezed(String text) {
        return text.replaceAll("\\s+", " ");
    }

    private static String between(String whole, String from, String to) {
        int first = whole.indexOf(from) + from.length();
        return whole.substring(first, whole.indexOf(to, first));
    }

    static String nameOf(int section) {
        return section == TERMS ? "terms" : "promise " + section;
    }

    /** Marks these words as quoted; false, if the section does not say them. */
    boolean quote(int section, String words) {
        if (!there) {
            return true;
        }
        int at = sections[section].indexOf(words);
        for (int i = at; i >= 0 && i < at + words.length(); i++) {
            quoted[section][i] = true;
        }
        return at >= 0;
    }

    /** Edges that no test has quoted. */
    List<String> unquoted() {
        List<String> left = new ArrayList<>();
        for (int n = 0; n <= PROMISES && there; n++) {
            Matcher edge = EDGES.matcher(sections[n]);
            while (edge.find()) {
                if (!quoted[n][edge.start()]) {
                    int to = Math.min(sections[n].length(), edge.end() + 30);
                    left.add(nameOf(n) + ": .." + sections[n].substring(edge.start(), to));
                }
            }
        }
        return left;
    }
}
