import java.util.NoSuchElementException;

/** Counts and prints the answers that are not as due. */
final class Check {
    static final Class<IllegalArgumentException> ARGUMENT = IllegalArgumentException.class;
    static final Class<IllegalStateException> STATE = IllegalStateException.class;
    static final Class<NoSuchElementException> NONE = NoSuchElementException.class;
    private static final int MOST_TOLD = 20;

    private static int asked = 0;
    private static int wrong = 0;
    private static int told = 0;
    private static String prefix = "";

    private Check() {
    }

    /** What is asked from now on belongs to this case. */
    static void begin(String name) {
        prefix = name + ": ";
        told = 0;
    }

    static boolean same(String what, long got, long due) {
        asked++;
        if (got == due) {
            return true;
        }
        fail(what + " answered " + got + ", due is " + due);
        return false;
    }

    static void same(String what, String got, String due) {
        asked++;
        if (!got.equals(due)) {
            fail(what + " answered " + got + ", due is " + due);
        }
    }

    static void isTrue(String what, boolean got) {
        same(what, got ? 1 : 0, 1);
    }

    static void isFalse(String what, boolean got) {
        same(what, got ? 1 : 0, 0);
    }

    /** The call must throw an exception of exactly this class. */
    static void throwsOf(String what, Class<? extends RuntimeException> due, Runnable call) {
        asked++;
        try {
            call.run();
        } catch (RuntimeException e) {
            if (e.getClass() != due) {
                fail(what + " threw " + e.getClass().getName() + ", due is " + due.getName());
            }
            return;
        }
        fail(what + " threw nothing, due is " + due.getName());
    }

    static void fail(String fault) {
        wrong++;
        told++;
        if (told <= MOST_TOLD) {
            System.out.println(prefix + fault);
        }
    }

    static boolean anyWrong() {
        return wrong > 0;
    }

    static void end() {
        System.out.println(wrong == 0 ? "all " + asked + " answers are as due" : wrong + " answers are not as due");
        if (wrong > 0) {
            System.exit(1);
        }
    }
}
