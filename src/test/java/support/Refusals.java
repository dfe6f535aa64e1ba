import java.util.List;
import java.util.function.Consumer;
import java.util.function.ToIntFunction;

/**
 * Calls that one kitchen refuses: each is answered as due and changes nothing, neither what can be asked at once
 * nor what comes of the minutes behind it (which tells of THE PLAN and of the minutes named for calling off).
 */
final class Refusals {
    private static final int BAD = -1;
    private static final int MINUTES_BEHIND = 200;
    private static final int LAST_MINUTE = 10000;

    /** A call with one of its numbers left open. */
    interface Call {
        int on(PromiseKitchen x, int n);
    }

    private final Check check;
    private final Consumer<PromiseKitchen> before;
    private final List<String> toldAtOnce;
    private final List<String> toldLater;

    Refusals(Check check, Consumer<PromiseKitchen> before) {
        this.check = check;
        this.before = before;
        toldAtOnce = Witness.tell(before);
        toldLater = Witness.tell(before.andThen(Refusals::runOn));
    }

    /** A kitchen made so, for the calls just inside the border. */
    PromiseKitchen kitchen() {
        PromiseKitchen x = new PromiseKitchen();
        before.accept(x);
        return x;
    }

    void bad(String call, ToIntFunction<PromiseKitchen> refused) {
        answered(call, refused, BAD);
    }

    /** Just outside its borders, and far from them, the number is BAD. */
    void badOutside(String call, int least, int most, Call refused) {
        for (int n : new int[] {least - 1, most + 1, Integer.MIN_VALUE, Integer.MAX_VALUE}) {
            bad(call + " with n = " + n, x -> refused.on(x, n));
        }
    }

    void answered(String call, ToIntFunction<PromiseKitchen> refused, int want) {
        check.due(call, refused.applyAsInt(kitchen()), want);
        unchanged(call, refused::applyAsInt);
    }

    void thrown(String call, Class<? extends RuntimeException> want, ToIntFunction<PromiseKitchen> refused) {
        PromiseKitchen x = kitchen();
        check.dueThrow(call, want, () -> refused.applyAsInt(x));
        unchanged(call, asked -> {
            try {
                refused.applyAsInt(asked);
            } catch (RuntimeException expected) {
                // told by the check above
            }
        });
    }

    /** Nothing but an answer comes of this call, refused or not. */
    void unchanged(String call, Consumer<PromiseKitchen> asked) {
        dueSame(call + ", then ", Witness.tell(before.andThen(asked)), toldAtOnce);
        dueSame(call + ", later ", Witness.tell(before.andThen(asked).andThen(Refusals::runOn)), toldLater);
    }

    private static void runOn(PromiseKitchen x) {
        x.run(Math.min(LAST_MINUTE, x.now() + MINUTES_BEHIND));
    }

    private void dueSame(String when, List<String> got, List<String> want) {
        for (int i = 0; i < got.size() && i < want.size(); i++) {
            if (!got.get(i).equals(want.get(i))) {
                check.say(when + got.get(i) + ", without that call: " + want.get(i));
                return;
            }
        }
        if (got.size() != want.size()) {
            check.say(when + got.size() + " lines are told, without that call: " + want.size());
        }
    }
}
