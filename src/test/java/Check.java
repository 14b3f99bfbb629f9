/** Counts answers that are not the ones that are due. */
final class Check {
    static final String INDEX = "IndexOutOfBoundsException";
    static final String ARGUMENT = "IllegalArgumentException";
    static final String STATE = "IllegalStateException";

    private static int wrong = 0;
    private static int checked = 0;

    interface Call {
        void run();
    }

    private Check() {
    }

    static void due(String call, long got, long want) {
        checked++;
        if (got != want) {
            wrong++;
            System.out.println(call + " answered " + got + ", due is " + want);
        }
    }

    static void due(String call, boolean got, boolean want) {
        due(call, got ? 1 : 0, want ? 1 : 0);
    }

    /** The call must throw exactly this exception, and change nothing. */
    static void dueThrow(String call, WorldDeltas world, String want, Call run) {
        long before = world.digest();
        String got = "nothing";
        try {
            run.run();
        } catch (RuntimeException thrown) {
            got = thrown.getClass().getSimpleName();
        }
        checked++;
        if (!got.equals(want)) {
            wrong++;
            System.out.println(call + " threw " + got + ", due is " + want);
        }
        due(call + ", the digest after it", world.digest(), before);
    }

    static void fail(String message) {
        checked++;
        wrong++;
        System.out.println(message);
    }

    static void end() {
        System.out.println(checked + " answers checked, " + wrong + " are not as due");
        if (wrong != 0 || checked == 0) {
            System.exit(1);
        }
    }
}
