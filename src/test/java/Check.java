/** Counts and prints the answers that are not as due. */
final class Check {
    private static int wrong = 0;
    private static int asked = 0;

    private Check() {
    }

    static boolean same(String what, long got, long due) {
        asked++;
        if (got == due) {
            return true;
        }
        wrong++;
        if (wrong <= 50) {
            System.out.println(what + " answered " + got + ", due is " + due);
        }
        return false;
    }

    static void isTrue(String what, boolean got) {
        same(what, got ? 1 : 0, 1);
    }

    static void isFalse(String what, boolean got) {
        same(what, got ? 1 : 0, 0);
    }

    /** The call must throw an exception of exactly this class. */
    static void throwsOf(String what, Class<? extends RuntimeException> due, Runnable call) {
        asked++;
        try {
            call.run();
        } catch (RuntimeException e) {
            if (e.getClass() == due) {
                return;
            }
            wrong++;
            System.out.println(what + " threw " + e.getClass().getName() + ", due is " + due.getName());
            return;
        }
        wrong++;
        System.out.println(what + " threw nothing, due is " + due.getName());
    }

    static boolean anyWrong() {
        return wrong > 0;
    }

    static void end() {
        System.out.println(wrong == 0 ? "all " + asked + " answers are as due" : wrong + " answers are not as due");
        if (wrong > 0) {
            System.exit(1);
        }
    }
}
