/** Compares answers with those that are due, prints each wrong one, and ends a test with exit code 1 after any. */
final class Due {
    static final String INDEX = "throws.IndexOutOfBoundsException";
    static final String STATE = "throws.IllegalStateException";
    static final String ARGUMENT = "throws.IllegalArgumentException";

    private static int asked = 0;
    private static int wrong = 0;

    interface Call {
        int make();
    }

    private Due() {
    }

    /** What a call answers, as a text: a number, or the exception's name. */
    static String answer(Call call) {
        try {
            return String.valueOf(call.make());
        } catch (RuntimeException e) {
            String name = "throws." + e.getClass().getSimpleName();
            return thrownByTheClass(e) ? name : name + " that the class did not throw itself";
        }
    }

    // The machine's exceptions show by their class's name; the library's can bear ours, but start in another class.
    private static boolean thrownByTheClass(RuntimeException e) {
        StackTraceElement[] trace = e.getStackTrace();
        return trace.length > 0 && trace[0].getClassName().startsWith("LightDoses");
    }

    static void is(String what, Call call, long due) {
        is(what, answer(call), String.valueOf(due));
    }

    static void is(String what, Call call, String due) {
        is(what, answer(call), due);
    }

    static void is(String what, String got, String due) {
        asked++;
        if (!got.equals(due)) {
            wrong++;
            if (wrong <= 50) {
                System.out.println(what + " answered " + got + ", due is " + due);
            }
        }
    }

    static int wrongSoFar() {
        return wrong;
    }

    static void end() {
        System.out.println(asked + " answers, " + wrong + " of them wrong");
        if (wrong != 0 || asked == 0) {
            System.exit(1);
        }
    }
}
