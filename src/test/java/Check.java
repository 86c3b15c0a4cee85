import java.util.function.LongSupplier;

/** Counts and prints what is not as due; the tests of the project share it. */
final class Check {
    private int right = 0;
    private int wrong = 0;

    interface Call {
        void run();
    }

    void due(String call, long got, long want) {
        note(got == want, call + " answered " + got + ", due is " + want);
    }

    void due(String call, boolean got, boolean want) {
        note(got == want, call + " answered " + got + ", due is " + want);
    }

    void same(String call, Object got, Object want) {
        note(got.equals(want), call + " answered " + got + ", due is " + want);
    }

    void dueThrow(String call, Class<? extends RuntimeException> want, Call made) {
        Class<?> got = null;
        try {
            made.run();
        } catch (RuntimeException e) {
            got = e.getClass();
        }
        note(want == got, call + " threw " + got + ", due is " + want);
    }

    void noIndex(String call, Call made) {
        dueThrow(call, IndexOutOfBoundsException.class, made);
    }

    void noArgument(String call, Call made) {
        dueThrow(call, IllegalArgumentException.class, made);
    }

    /** What a call answers, or the name of what it throws. */
    static String answer(LongSupplier call) {
        try {
            return Long.toString(call.getAsLong());
        } catch (RuntimeException e) {
            return "throws." + e.getClass().getSimpleName();
        }
    }

    void finish() {
        System.out.println(right + " answers as due, " + wrong + " not");
        if (wrong != 0 || right == 0) {
            System.exit(1);
        }
    }

    private void note(boolean asDue, String text) {
        if (asDue) {
            right++;
        } else {
            wrong++;
            System.out.println(text);
        }
    }
}
