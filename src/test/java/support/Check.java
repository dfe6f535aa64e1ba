import java.util.Arrays;
import java.util.function.IntSupplier;

/** Counts and prints the answers that are not as due. */
final class Check {
    private String about = "";
    private int wrong = 0;

    void about(String subject) {
        about = subject;
    }

    void due(String call, int got, int want) {
        if (got != want) {
            say(call + " answered " + got + ", due is " + want);
        }
    }

    /** The calls' answers one behind the other, so that a row of them is told in one line. */
    void dueRow(String calls, int[] got, int... want) {
        if (!Arrays.equals(got, want)) {
            say(calls + " answered " + Arrays.toString(got) + ", due is " + Arrays.toString(want));
        }
    }

    /** THE LOG has these entries, each minute, stage, event, and no more. */
    void dueLog(PromiseKitchen x, int[]... entries) {
        for (int i = 0; i < entries.length; i++) {
            int[] got = {x.log(i, 0), x.log(i, 1), x.log(i, 2)};
            dueRow("log(" + i + ", 0 to 2)", got, entries[i]);
        }
        due("log(" + entries.length + ", 0)", x.log(entries.length, 0), -1);
    }

    void dueEnd(PromiseKitchen x, int s, int minute, int place) {
        int[] got = {x.end(s, 0), x.end(s, 1)};
        dueRow("end(" + s + ", 0 and 1)", got, minute, place);
    }

    /** The FAILURES of a stage are these, each what failure() answers for 0 to 3, and no more. */
    void dueFailures(PromiseKitchen x, int s, int[]... rows) {
        for (int i = 0; i < rows.length; i++) {
            dueRow("failure(" + s + ", " + i + ", 0 to 3)", failure(x, s, i), rows[i]);
        }
        dueThrow("failure(" + s + ", " + rows.length + ", 0)", IndexOutOfBoundsException.class,
                () -> x.failure(s, rows.length, 0));
    }

    static int[] failure(PromiseKitchen x, int s, int i) {
        return new int[] {x.failure(s, i, 0), x.failure(s, i, 1), x.failure(s, i, 2), x.failure(s, i, 3)};
    }

    static int[] states(PromiseKitchen x, int... stages) {
        int[] found = new int[stages.length];
        for (int i = 0; i < stages.length; i++) {
            found[i] = x.state(stages[i]);
        }
        return found;
    }

    void dueThrow(String call, Class<? extends RuntimeException> want, IntSupplier asked) {
        try {
            say(call + " answered " + asked.getAsInt() + ", due is " + want.getSimpleName());
        } catch (RuntimeException thrown) {
            if (thrown.getClass() != want) {
                say(call + " threw " + thrown + ", due is " + want.getSimpleName());
            }
        }
    }

    void say(String fault) {
        wrong++;
        System.out.println(about + ": " + fault);
    }

    void finish() {
        System.out.println(wrong == 0 ? "all answers are as due" : wrong + " answers are not as due");
        if (wrong != 0) {
            System.exit(1);
        }
    }
}
