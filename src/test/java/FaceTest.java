import java.lang.reflect.Constructor;
import java.lang.reflect.Field;
import java.lang.reflect.Method;
import java.lang.reflect.Modifier;
import java.util.Set;
import java.util.TreeSet;

/** The public face is the document's, and nothing else can be seen from outside (rule 1 of LANGUAGE.md). */
public final class FaceTest {
    private static final String[] FACE = {
        "type(1)", "clear(0)", "system(0)", "formula(0)", "labels(2)", "moves(3)", "takes(1)", "stores(1)",
        "fetches(1)", "undo(0)", "label(1)", "move(2)", "part(2)", "holds(2)", "where(1)", "some(1)", "breaks(2)",
        "against(2)", "shows(1)", "hides(0)", "judged(1)", "keep(1)", "back(1)", "count(1)"};

    public static void main(String[] args) {
        int flags = LassoPaths.class.getModifiers();
        Check.that("public and final", Modifier.isPublic(flags) && Modifier.isFinal(flags));
        constructors();
        methods();
        fields();
        nested();
        Check.end();
    }

    private static void constructors() {
        Constructor<?>[] all = LassoPaths.class.getDeclaredConstructors();
        Check.due("constructors", all.length, 1);
        Check.that("public without arguments", all[0].getParameterCount() == 0 && Modifier.isPublic(all[0].getModifiers()));
    }

    private static void methods() {
        Set<String> due = new TreeSet<>(Set.of(FACE));
        Set<String> names = new TreeSet<>();
        for (String face : FACE) {
            names.add(face.substring(0, face.indexOf('(')));
        }
        for (Method m : LassoPaths.class.getDeclaredMethods()) {
            if (Modifier.isPrivate(m.getModifiers())) {
                Check.that("private " + m.getName() + " has a name of its own", !names.contains(m.getName()));
                continue;
            }
            String told = m.getName() + "(" + m.getParameterCount() + ")";
            Check.that(told + " is of the face", due.remove(told));
            Check.that(told + " is public", Modifier.isPublic(m.getModifiers()));
            Check.that(told + " answers an int", m.getReturnType() == int.class);
            for (Class<?> parameter : m.getParameterTypes()) {
                Check.that(told + " takes ints", parameter == int.class);
            }
        }
        Check.that("missing: " + due, due.isEmpty());
    }

    private static void fields() {
        Set<String> due = new TreeSet<>(Set.of("BAD", "STATE", "FULL", "NONE"));
        for (Field f : LassoPaths.class.getDeclaredFields()) {
            int flags = f.getModifiers();
            if (Modifier.isStatic(flags)) {
                Check.that(f.getName() + " is final", Modifier.isFinal(flags));
            }
            if (!Modifier.isPrivate(flags)) {
                Check.that(f.getName() + " is of the face", due.remove(f.getName()));
                Check.that(f.getName() + " is public static int", Modifier.isPublic(flags) && Modifier.isStatic(flags)
                        && f.getType() == int.class);
            }
        }
        Check.that("missing: " + due, due.isEmpty());
        Check.due("BAD", LassoPaths.BAD, -1);
        Check.due("STATE", LassoPaths.STATE, -2);
        Check.due("FULL", LassoPaths.FULL, -3);
        Check.due("NONE", LassoPaths.NONE, -9);
    }

    private static void nested() {
        Class<?>[] all = LassoPaths.class.getDeclaredClasses();
        Check.that("twelve classes at most", all.length <= 11);
        for (Class<?> c : all) {
            Check.that(c.getName() + " is static", Modifier.isStatic(c.getModifiers()));
            Check.that(c.getName() + " is not public", !Modifier.isPublic(c.getModifiers()));
            int own = 0;
            for (Field f : c.getDeclaredFields()) {
                own += Modifier.isStatic(f.getModifiers()) ? 0 : 1;
            }
            Check.that(c.getName() + " has some twenty fields at most", own <= 20);
        }
    }
}
