/** Counts and prints the answers that are not due; shared by the tests of the project. */
final class Check {
    private static int checks = 0;
    private static int wrong = 0;
    private static String about = "";

    /** A call that may throw. */
    interface Call {
        Object run();
    }

    private Check() {
    }

    /** Stands ahead of every line that is printed from now on. */
    static void about(String text) {
        about = text;
    }

    static void that(String what, boolean holds) {
        checks++;
        if (!holds) {
            wrong++;
            System.out.println("wrong: " + about + what);
        }
    }

    static void equal(String what, long got, long want) {
        that(what + " answered " + got + ", due is " + want, got == want);
    }

    static void same(String what, String got, String want) {
        that(what + " answered " + got + ", due is " + want, got.equals(want));
    }

    /** Exactly this exception is due, not one of its subclasses. */
    static void thrown(String what, Class<? extends RuntimeException> want, Call call) {
        same(what, answer(call), "throws." + want.getSimpleName());
    }

    /** The answer of a call as a text, or the name of what it throws. */
    static String answer(Call call) {
        try {
            return String.valueOf(call.run());
        } catch (RuntimeException e) {
            return "throws." + e.getClass().getSimpleName();
        }
    }

    static int wrongSoFar() {
        return wrong;
    }

    static int checksSoFar() {
        return checks;
    }

    static void end(String name) {
        System.out.println(name + ": " + checks + " checks, " + wrong + " wrong");
        if (checks == 0 || wrong != 0) {
            System.exit(1);
        }
    }
}
