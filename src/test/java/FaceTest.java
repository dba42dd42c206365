import java.lang.reflect.Constructor;
import java.lang.reflect.Field;
import java.lang.reflect.Method;
import java.lang.reflect.Modifier;
import java.util.Arrays;
import java.util.List;
import java.util.TreeSet;

/** The public face: the document's constants, constructor and methods, and nothing beside them. */
public final class FaceTest {
    private static final List<String> METHODS = List.of("int pass(int, int, int, int)", "int ofPerson(int, int)",
        "int ofWay(int, int)", "int telling(int, int, int)", "int undo(int)", "int law(int)", "int fog(int, boolean)",
        "int hush(int, boolean)", "int hears(int, int, int)", "int count(int, int, int)", "int forges(int, int)",
        "int works(int)", "int path(int, int, int)", "int fewest(int, int, int)", "int hushed(int, int, int)",
        "int worth(int)", "int spare()", "int reading(int, int, int, boolean)", "int back(int)", "int told(int, int)",
        "int mute()", "int rows(int, int, int, int, int)", "int sheet(int, int, int)", "int lose(int)",
        "int put(int, int, int)", "long cell(int, int, int)", "int copy(int, int, int, int, int)", "int tell(int)",
        "int greet(int)", "int as(int, int)", "int trace()", "int fault()", "int many(int)");

    private static final List<Class<?>> CONSTANTS = List.of(int.class, long.class, boolean.class, char.class,
        String.class, int[].class, long[].class, char[].class, byte[].class);

    private FaceTest() {
    }

    public static void main(String[] args) {
        constants();
        Class<?> face = IronRumours.class;
        Check.due("public and final", face.getModifiers(), Modifier.PUBLIC | Modifier.FINAL);
        methods(face);
        fields(face);
        constructors(face);
        size(face);
        for (Class<?> inside : face.getDeclaredClasses()) {
            int is = inside.getModifiers();
            yes(inside + " is static", Modifier.isStatic(is));
            yes(inside + " is not public or protected", !Modifier.isPublic(is) && !Modifier.isProtected(is));
            size(inside);
        }
        Check.end("FaceTest");
    }

    private static void constants() {
        Check.due("UNKNOWN", IronRumours.UNKNOWN, -1);
        Check.due("OUTSIDE", IronRumours.OUTSIDE, -2);
        Check.due("STATE", IronRumours.STATE, -3);
        Check.due("FULL", IronRumours.FULL, -4);
        Check.due("NONE", IronRumours.NONE, -9);
        Check.due("LOST", IronRumours.LOST, Long.MIN_VALUE);
    }

    private static void methods(Class<?> face) {
        TreeSet<String> names = new TreeSet<>();
        TreeSet<String> found = new TreeSet<>();
        for (Method m : face.getDeclaredMethods()) {
            if (!Modifier.isPrivate(m.getModifiers())) {
                String takes = Arrays.toString(m.getParameterTypes());
                found.add(m.getReturnType() + " " + m.getName() + "(" + takes.substring(1, takes.length() - 1) + ")");
                names.add(m.getName());
                yes(m + " is public", Modifier.isPublic(m.getModifiers()) && !Modifier.isStatic(m.getModifiers()));
            }
        }
        yes("the methods are " + found, found.equals(new TreeSet<>(METHODS)));
        for (Method m : face.getDeclaredMethods()) {
            yes(m + " bears a name of its own", !Modifier.isPrivate(m.getModifiers()) || !names.contains(m.getName()));
        }
    }

    private static void fields(Class<?> face) {
        TreeSet<String> found = new TreeSet<>();
        for (Field f : face.getDeclaredFields()) {
            if (!Modifier.isPrivate(f.getModifiers())) {
                found.add(f.getType() + " " + f.getName());
                yes(f + " is a constant", f.getModifiers() == (Modifier.PUBLIC | Modifier.STATIC | Modifier.FINAL));
            }
            yes(f + " is final, if static", !Modifier.isStatic(f.getModifiers()) || Modifier.isFinal(f.getModifiers()));
        }
        yes("the constants are " + found, found.equals(new TreeSet<>(
            List.of("int UNKNOWN", "int OUTSIDE", "int STATE", "int FULL", "int NONE", "long LOST"))));
    }

    private static void constructors(Class<?> face) {
        Constructor<?>[] all = face.getDeclaredConstructors();
        Check.due("constructors", all.length, 1);
        Check.due("it is public", all[0].getModifiers(), Modifier.PUBLIC);
        Check.due("it takes", all[0].getParameterCount(), 0);
    }

    /** LANGUAGE.md, rules 5 and 11: few fields in each class, and nothing static but constants. */
    private static void size(Class<?> part) {
        int fields = 0;
        for (Field f : part.getDeclaredFields()) {
            if (Modifier.isStatic(f.getModifiers())) {
                yes(f + " is a constant", f.isSynthetic() || f.getType() == part || CONSTANTS.contains(f.getType()));
            } else {
                fields++;
            }
        }
        yes(part + " has " + fields + " fields", fields <= 20);
    }

    private static void yes(String what, boolean is) {
        Check.due(what, is ? 1 : 0, 1);
    }
}
