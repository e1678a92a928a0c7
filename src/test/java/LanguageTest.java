import java.io.IOException;
import java.lang.reflect.Constructor;
import java.lang.reflect.Field;
import java.lang.reflect.Method;
import java.lang.reflect.Modifier;
import java.nio.file.Files;
import java.nio.file.Path;
import java.util.ArrayList;
import java.util.List;
import java.util.Set;
import java.util.regex.Matcher;
import java.util.regex.Pattern;

/** What of ../shared/LANGUAGE.md can be seen from the class and its text; the rest is for a reader. */
public final class LanguageTest {
    private static final Path SOURCE = Path.of("src/main/java/RhymedThen.java");
    private static final int MOST_CLASSES = 12;
    private static final int MOST_FIELDS = 20;
    private static final int MOST_LINES = 60;
    private static final int MOST_PARAMETERS = 7;
    private static final Set<String> IMPORTS = Set.of("java.util.ArrayList", "java.util.Arrays", "java.util.Iterator",
        "java.util.List", "java.util.NoSuchElementException");
    private static final Set<Class<?>> CONSTANTS = Set.of(int.class, long.class, boolean.class, char.class,
        String.class, int[].class, long[].class, char[].class, byte[].class);
    // what rules 2, 6 and 13 leave out, and all that could catch what the machine throws
    private static final Pattern LEFT_OUT = Pattern.compile("->|::|\\b(finally|synchronized|assert|volatile|native"
        + "|try|catch|package|var|Thread|System\\.(?!arraycopy)\\w+|Random|\\w+Exact|hashCode|getClass)\\b");
    private static final Pattern METHOD = Pattern.compile("( +)[\\w\\[\\] ]+\\([\\w\\[\\], ]*\\)[\\w ]* \\{");

    private final Due due = new Due();
    private final List<String> lines = new ArrayList<>();

    public static void main(String[] args) throws IOException {
        LanguageTest test = new LanguageTest();
        for (String line : Files.readAllLines(SOURCE)) {
            test.lines.add(line);
        }
        test.text();
        test.imports();
        test.methodLengths();
        test.classes();
        test.due.finish();
    }

    private void text() {
        due.about("rules 2, 3, 6 and 13");
        for (String line : lines) {
            due.is("signs are 32 to 126: " + line, line.chars().allMatch(c -> c >= 32 && c <= 126), true);
            Matcher found = LEFT_OUT.matcher(withoutComment(line));
            due.is("left out: " + line, found.find(), false);
        }
    }

    private static String withoutComment(String line) {
        String bare = line.strip();
        boolean comment = bare.startsWith("/*") || bare.startsWith("*") || bare.startsWith("//");
        return comment ? "" : bare;
    }

    private void imports() {
        due.about("rule 4");
        for (String line : lines) {
            if (line.startsWith("import ")) {
                String name = line.substring("import ".length(), line.length() - 1);
                due.is("may be imported: " + name, IMPORTS.contains(name), true);
            }
            due.is("imported, not named in full: " + line, line.contains("java.") && !line.startsWith("import "), false);
        }
    }

    private void methodLengths() {
        due.about("rule 11");
        int seen = 0;
        for (int i = 0; i < lines.size(); i++) {
            Matcher method = METHOD.matcher(lines.get(i));
            if (method.matches() && !lines.get(i).contains(" class ") && !isStatement(lines.get(i))) {
                int length = lines.subList(i, lines.size()).indexOf(method.group(1) + "}") + 1;
                due.is("short: " + lines.get(i), length > 0 && length <= MOST_LINES, true);
                seen++;
            }
        }
        due.is("methods are seen", seen > 100, true);
    }

    private static boolean isStatement(String line) {
        return line.strip().matches("(} else )?(if|for|while|switch|do)\\b.*");
    }

    private void classes() {
        Class<?>[] inside = RhymedThen.class.getDeclaredClasses();
        due.about("rule 11");
        due.is("at most " + MOST_CLASSES + " classes", inside.length < MOST_CLASSES, true);
        members(RhymedThen.class);
        for (Class<?> c : inside) {
            members(c);
        }
    }

    private void members(Class<?> c) {
        int held = 0;
        for (Field f : c.getDeclaredFields()) {
            if (Modifier.isStatic(f.getModifiers())) {
                due.about("rule 5");
                due.is(f + " is final", Modifier.isFinal(f.getModifiers()), true);
                due.is(f + " is of a constant's type", CONSTANTS.contains(f.getType()), true);
            } else {
                held++;
            }
        }
        due.about("rule 11");
        due.is(c + " has at most " + MOST_FIELDS + " fields", held <= MOST_FIELDS, true);
        for (Method m : c.getDeclaredMethods()) {
            due.is(m + " has few parameters", m.getParameterCount() <= MOST_PARAMETERS, true);
        }
        for (Constructor<?> made : c.getDeclaredConstructors()) {
            due.is(made + " has few parameters", made.getParameterCount() <= MOST_PARAMETERS, true);
        }
    }
}
