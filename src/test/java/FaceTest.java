import java.lang.reflect.Constructor;
import java.lang.reflect.Field;
import java.lang.reflect.Method;
import java.lang.reflect.Modifier;
import java.util.Arrays;
import java.util.TreeSet;

/** The class shows the members that the document names, and no others. */
final class FaceTest {
    private static final String INDEX = " throws IndexOutOfBoundsException";
    private static final String[] METHODS = {
        "boolean place(int, int, int, int, int)" + INDEX + ", IllegalArgumentException",
        "int setVelocity(int, int, int)" + INDEX + ", IllegalArgumentException, IllegalStateException",
        "int setHealth(int, int)" + INDEX + ", IllegalArgumentException, IllegalStateException",
        "int destroy(int)" + INDEX + ", IllegalStateException",
        "int entity(int, int)" + INDEX + ", IllegalArgumentException",
        "boolean connect(int, int, int, int, int)" + INDEX + ", IllegalArgumentException",
        "int look(int, int, int, int)" + INDEX + ", IllegalArgumentException, IllegalStateException",
        "int disconnect(int)" + INDEX + ", IllegalStateException",
        "int setTimes(int, int) throws IllegalArgumentException",
        "int lose(int, int, int)" + INDEX + ", IllegalArgumentException, IllegalStateException",
        "int tick(int) throws IllegalArgumentException",
        "int time()",
        "int copy(int, int, int)" + INDEX + ", IllegalArgumentException",
        "int kept(int, int, int)" + INDEX + ", IllegalArgumentException, IllegalStateException",
        "int count(int, int)" + INDEX + ", IllegalArgumentException",
        "int stale(int)" + INDEX + ", IllegalStateException",
        "int packet(int, int, int)" + INDEX + ", IllegalArgumentException",
        "int entry(int, int, int, int)" + INDEX + ", IllegalArgumentException",
        "int price(int, int)" + INDEX + ", IllegalStateException",
        "int undo() throws IllegalStateException",
        "long digest()",
    };

    public static void main(String[] args) {
        Class<?> face = WorldDeltas.class;
        Check.due("public and final", face.getModifiers() & (Modifier.PUBLIC | Modifier.FINAL),
                Modifier.PUBLIC | Modifier.FINAL);
        methods(face);
        constructor(face);
        constants(face);
        nestedClasses(face);
        Check.end();
    }

    private static void methods(Class<?> face) {
        TreeSet<String> got = new TreeSet<>();
        for (Method m : face.getDeclaredMethods()) {
            if (!Modifier.isPrivate(m.getModifiers()) && !m.isSynthetic()) {
                got.add(told(m));
                Check.due(m.getName() + " is public and no more", m.getModifiers(), Modifier.PUBLIC);
            }
        }
        TreeSet<String> want = new TreeSet<>(Arrays.asList(METHODS));
        if (!got.equals(want)) {
            Check.fail("the methods are " + got + ", due are " + want);
        }
    }

    private static String told(Method m) {
        String text = m.getReturnType() + " " + m.getName() + listed("(", m.getParameterTypes()) + ")";
        return m.getExceptionTypes().length == 0 ? text : text + listed(" throws ", m.getExceptionTypes());
    }

    private static String listed(String start, Class<?>[] types) {
        StringBuilder text = new StringBuilder(start);
        for (int i = 0; i < types.length; i++) {
            text.append(i == 0 ? "" : ", ").append(types[i].getSimpleName());
        }
        return text.toString();
    }

    private static void constructor(Class<?> face) {
        Constructor<?>[] all = face.getDeclaredConstructors();
        Check.due("constructors", all.length, 1);
        Check.due("its arguments", all[0].getParameterCount(), 0);
        Check.due("it is public", all[0].getModifiers(), Modifier.PUBLIC);
    }

    private static void constants(Class<?> face) {
        int shown = 0;
        for (Field f : face.getDeclaredFields()) {
            shown += Modifier.isPrivate(f.getModifiers()) ? 0 : 1;
        }
        Check.due("constants", shown, 4);
        Check.due("NONE", WorldDeltas.NONE, -1);
        Check.due("REMOVAL", WorldDeltas.REMOVAL, 0);
        Check.due("CREATION", WorldDeltas.CREATION, 1);
        Check.due("DIFFERENCE", WorldDeltas.DIFFERENCE, 2);
    }

    private static void nestedClasses(Class<?> face) {
        TreeSet<String> names = new TreeSet<>();
        for (Method m : face.getDeclaredMethods()) {
            if (Modifier.isPublic(m.getModifiers())) {
                names.add(m.getName());
            }
        }
        for (Class<?> inside : face.getDeclaredClasses()) {
            Check.due(inside + " is static and not public",
                    inside.getModifiers() & (Modifier.STATIC | Modifier.PUBLIC | Modifier.PROTECTED), Modifier.STATIC);
            for (Method m : inside.getDeclaredMethods()) {
                if (names.contains(m.getName())) {
                    Check.fail(inside + " has a method with the public name " + m.getName());
                }
            }
        }
    }
}
