import java.lang.reflect.Constructor;
import java.lang.reflect.Field;
import java.lang.reflect.Method;
import java.lang.reflect.Modifier;
import java.util.Arrays;
import java.util.Set;
import java.util.TreeSet;

/** The class has the document's face and no other. */
public final class FaceTest {
    private static final String[] FACE = {
        "int sign(int)", "boolean end(int)", "int group(int,int)", "int word()", "int law(int,int,int)",
        "int lag(int,int)", "int lags(int,int,int,int)", "int said(int,int,int,int)", "int changes(int,int,int)",
        "int alike(int,int,int,int,int)", "int one(int,int,int,int)", "int rhymes(int,int,int,int)",
        "int chance(int,int,int)", "int works(int,int,int,int)", "int mark(int,int,int,int,int,int)",
        "boolean by(int,int,int)", "boolean turn(int,boolean)", "int holds(int,int)", "int fits()",
        "int span(int,int)", "int order(int,int)", "int wrong()", "int blunder()", "int sure(int,int,int)",
        "int shows(int,int)", "int least()", "int odds(int)", "int then(int,int,int)", "int right(int,int,int)",
        "int likely()", "int next()", "int eye(int,int)", "int lean(int,int)", "int ahead(int,int)",
        "int stage(int,int,int,int,int)", "int might(int,int,int,int,int,int)", "int look(int,int)",
        "int settled(int,int)", "int fell(int,int,int)", "int town(int,int,int,int)",
        "int swap(int,int,int,int,int)", "boolean keep(int)", "boolean again(int)", "int count(int)",
        "int year(int,int)", "long row(int)",
    };

    public static void main(String[] args) {
        Set<String> found = new TreeSet<>();
        Set<String> names = new TreeSet<>();
        Set<String> hidden = new TreeSet<>();
        for (Method m : RhymedThen.class.getDeclaredMethods()) {
            if (Modifier.isPrivate(m.getModifiers())) {
                hidden.add(m.getName());
            } else {
                names.add(m.getName());
                found.add(signature(m));
            }
        }
        must(found.equals(new TreeSet<>(Arrays.asList(FACE))), "another face: " + found);
        for (Class<?> inside : RhymedThen.class.getDeclaredClasses()) {
            must(Modifier.isStatic(inside.getModifiers()), inside + " is not static");
            for (Method m : inside.getDeclaredMethods()) {
                hidden.add(m.getName());
            }
        }
        hidden.retainAll(names);
        must(hidden.isEmpty(), "methods inside bear names of the face: " + hidden);
        for (Field f : RhymedThen.class.getDeclaredFields()) {
            boolean none = f.getName().equals("NONE");
            must(none ? Modifier.isPublic(f.getModifiers()) : Modifier.isPrivate(f.getModifiers()), "field " + f);
        }
        Constructor<?>[] made = RhymedThen.class.getDeclaredConstructors();
        must(made.length == 1 && Modifier.isPublic(made[0].getModifiers()), "constructors");
        must(Modifier.isFinal(RhymedThen.class.getModifiers()), "the class is not final");
        must(RhymedThen.NONE == -1, "NONE");
    }

    private static String signature(Method m) {
        StringBuilder types = new StringBuilder();
        for (Class<?> p : m.getParameterTypes()) {
            types.append(types.length() == 0 ? "" : ",").append(p.getName());
        }
        return m.getReturnType().getName() + " " + m.getName() + "(" + types + ")";
    }

    private static void must(boolean so, String else_) {
        if (!so) {
            System.out.println(else_);
            System.exit(1);
        }
    }
}
