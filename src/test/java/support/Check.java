import java.util.function.IntSupplier;

/** Counts and prints the answers that are not as due. */
final class Check {
    private String about = "";
    private int wrong = 0;

    void about(String subject) {
        about = subject;
    }

    void due(String call, int got, int want) {
        if (got != want) {
            say(call + " answered " + got + ", due is " + want);
        }
    }

    /** The calls' answers one behind the other, so that a row of them is told in one line. */
    void dueRow(String calls, int[] got, int... want) {
        if (!java.util.Arrays.equals(got, want)) {
            say(calls + " answered " + java.util.Arrays.toString(got) + ", due is " + java.util.Arrays.toString(want));
        }
    }

    void dueThrow(String call, Class<? extends RuntimeException> want, IntSupplier asked) {
        try {
            say(call + " answered " + asked.getAsInt() + ", due is " + want.getSimpleName());
        } catch (RuntimeException thrown) {
            if (thrown.getClass() != want) {
                say(call + " threw " + thrown + ", due is " + want.getSimpleName());
            }
        }
    }

    void say(String fault) {
        wrong++;
        System.out.println(about + ": " + fault);
    }

    void finish() {
        System.out.println(wrong == 0 ? "all answers are as due" : wrong + " answers are not as due");
        if (wrong != 0) {
            System.exit(1);
        }
    }
}
