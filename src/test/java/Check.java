import java.lang.reflect.InvocationTargetException;
import java.lang.reflect.Method;
import java.lang.reflect.Modifier;

/** Counts answers that are not the ones that are due. */
final class Check {
    static final String INDEX = "IndexOutOfBoundsException";
    static final String ARGUMENT = "IllegalArgumentException";
    static final String STATE = "IllegalStateException";

    private static int wrong = 0;
    private static int checked = 0;
    private static String test = "";

    interface Call {
        void run();
    }

    interface CallOn {
        void on(WorldDeltas world);
    }

    private Check() {
    }

    static void due(String call, long got, long want) {
        checked++;
        if (got != want) {
            wrong++;
            System.out.println(test + call + " answered " + got + ", due is " + want);
        }
    }

    static void due(String call, boolean got, boolean want) {
        due(call, got ? 1 : 0, want ? 1 : 0);
    }

    /** The call must throw exactly this exception, and change nothing that can be read. */
    static void dueThrow(String call, WorldDeltas world, String want, Call run) {
        long before = world.digest();
        dueThrow(call, want, run);
        due(call + ", the digest after it", world.digest(), before);
    }

    /** The call must throw exactly this exception. */
    static void dueThrow(String call, String want, Call run) {
        String got = "nothing";
        try {
            run.run();
        } catch (RuntimeException thrown) {
            got = thrown.getClass().getSimpleName();
        }
        checked++;
        if (!got.equals(want)) {
            wrong++;
            System.out.println(test + call + " threw " + got + ", due is " + want);
        }
    }

    /**
     * The call on the busy world must throw exactly this exception, and change nothing: neither what can be read,
     * nor what comes later (what is on its way cannot be read), nor what the undo stack holds. Answers whether it
     * is so.
     */
    static boolean refused(String call, String want, CallOn run) {
        int wrongBefore = wrong;
        WorldDeltas world = Worlds.busy();
        WorldDeltas twin = Worlds.busy();
        dueThrow(call, world, want, () -> run.on(world));
        due(call + ", beside a twin", world.digest(), twin.digest());
        for (int i = 0; i < 6; i++) {
            world.tick(3);
            twin.tick(3);
            due(call + ", beside a twin later", world.digest(), twin.digest());
        }
        WorldDeltas other = Worlds.busy();
        WorldDeltas before = Worlds.busy();
        dueThrow(call + " once more", other, want, () -> run.on(other));
        for (int left = 2; left >= 0; left--) {
            due(call + ", undo after it", other.undo(), left);
            before.undo();
            due(call + ", undone after it", other.digest(), before.digest());
        }
        return wrong == wrongBefore;
    }

    /** What is not from low to high: the next ones, and the ends of the int. */
    static int[] beyond(int low, int high) {
        return new int[] {low - 1, high + 1, Integer.MIN_VALUE, Integer.MAX_VALUE};
    }

    static void fail(String message) {
        checked++;
        wrong++;
        System.out.println(test + message);
    }

    /** Runs every test of the class, that is every static method of it without arguments. */
    static void runAll(Class<?> tests) {
        for (Method method : tests.getDeclaredMethods()) {
            if (isTest(method)) {
                run(method);
            }
        }
        end();
    }

    static boolean isTest(Method method) {
        return Modifier.isStatic(method.getModifiers()) && !method.isSynthetic()
                && method.getParameterCount() == 0 && method.getReturnType() == void.class;
    }

    /** Runs one test; answers whether every answer was as due. */
    static boolean run(Method method) {
        int before = wrong;
        int checkedBefore = checked;
        test = method.getName() + ": ";
        try {
            method.setAccessible(true);
            method.invoke(null);
        } catch (InvocationTargetException thrown) {
            fail("threw " + thrown.getCause());
        } catch (IllegalAccessException refused) {
            fail("cannot be run");
        }
        if (checked == checkedBefore) {
            fail("checked nothing");
        }
        test = "";
        return wrong == before;
    }

    static void end() {
        System.out.println(checked + " answers checked, " + wrong + " are not as due");
        if (wrong != 0 || checked == 0) {
            System.exit(1);
        }
    }
}
