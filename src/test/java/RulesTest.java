import java.util.function.ToIntFunction;

/** The Terms' INPUTS, functions and RULES: sentences that hold for several forms of stages, tried with each form. */
public final class RulesTest {
    private static final int VALUE = 5;
    private static final int FAILED = 6;
    private static final int CALLED_OFF = 7;
    private static final Check CHECK = new Check();

    public static void main(String[] args) {
        inputsInOrder();
        inputsOfAlways();
        stagesMadeBefore();
        endAsEachWay();
        endAsWithTheSameFailure();
        functionsOfEachWork();
        planOfEachWork();
        lowestPlaceOfThoseWithoutAValue();
        lowerPlaceForFirst();
        askedWhenAnInputEnds();
        otherThatEndedBefore();
        failedLimitIsAsAnyFailedStage();
        CHECK.finish();
    }

    private static int[] row(int... cells) {
        return cells;
    }

    /** Three works, and behind them the stage that is called off when minute 0 is TREATED. */
    private static void dueOrder(String call, ToIntFunction<PromiseKitchen> made, int[]... log) {
        PromiseKitchen x = new PromiseKitchen();
        x.task(60, 0, 0);
        x.task(60, 0, 0);
        x.task(60, 0, 0);
        CHECK.due("callOff() of " + call, x.callOff(made.applyAsInt(x), 0), 1);
        x.run(1);
        CHECK.dueLog(x, log);
    }

    private static void inputsInOrder() {
        CHECK.about("its INPUTS, in the order of the call's arguments: DUES go by it");
        int[] itself = row(0, 4, 4);
        int[] one = row(0, 1, 4);
        int[] two = row(0, 2, 4);
        int[] three = row(0, 3, 4);
        dueOrder("then(2, 0, 0)", x -> x.then(2, 0, 0), itself, two, row(0, 3, 1));
        dueOrder("both(3, 1, 0)", x -> x.both(3, 1, 0), itself, three, one, row(0, 2, 1));
        dueOrder("both(1, 3, 0)", x -> x.both(1, 3, 0), itself, one, three, row(0, 2, 1));
        dueOrder("first(3, 1)", x -> x.first(3, 1), itself, three, one, row(0, 2, 1));
        dueOrder("first(1, 3)", x -> x.first(1, 3), itself, one, three, row(0, 2, 1));
        dueOrder("onFailure(3, 0, 2)", x -> x.onFailure(3, 0, 2), itself, three, two, row(0, 1, 1));
        dueOrder("onFailure(2, 0, 3)", x -> x.onFailure(2, 0, 3), itself, two, three, row(0, 1, 1));
        dueOrder("limit(2, 9)", x -> x.limit(2, 9), itself, two, row(0, 3, 1));
        dueOrder("nested(2, 0, 0, 2)", x -> x.nested(2, 0, 0, 2), itself, two, row(0, 3, 1));
        CHECK.about("of all and any: from, from + 1, ..");
        dueOrder("all(1, 3)", x -> x.all(1, 3), itself, one, two, three);
        dueOrder("all(2, 2)", x -> x.all(2, 2), itself, two, three, row(0, 1, 1));
        dueOrder("any(1, 3, 2)", x -> x.any(1, 3, 2), itself, one, two, three);
        dueOrder("any(1, 2, 1)", x -> x.any(1, 2, 1), itself, one, two, row(0, 3, 1));
    }

    private static void inputsOfAlways() {
        CHECK.about("always: INPUTS: s, c. c has the INPUT s, too");
        PromiseKitchen x = new PromiseKitchen();
        x.task(60, 0, 0);
        x.task(60, 0, 0);
        x.always(1, 1, 0, 0);
        x.both(4, 2, 0);
        CHECK.dueRow("served(1 to 4)", row(x.served(1), x.served(2), x.served(3), x.served(4)), 2, 1, 1, 1);
        x.callOff(4, 0);
        x.run(1);
        // 5 as 4; DUES of 4: not 1, which 3 has as an INPUT, but 3; of 5: 2; of 3: 1
        CHECK.dueLog(x, row(0, 4, 4), row(0, 5, 4), row(0, 3, 4), row(0, 2, 4), row(0, 1, 4));
    }

    private static void stagesMadeBefore() {
        CHECK.about("a stage refers to stages made before it alone");
        PromiseKitchen x = new PromiseKitchen();
        x.value(1);
        x.value(2);
        CHECK.dueRow("stages that name themselves", row(x.then(3, 0, 0), x.both(1, 3, 0), x.first(3, 1), x.all(1, 3),
                x.any(2, 2, 1), x.onFailure(1, 0, 3), x.always(3, 1, 0, 0), x.always(4, 1, 0, 0), x.limit(3, 1),
                x.nested(2, 0, 0, 3)), -1, -1, -1, -1, -1, -1, -1, -1, -1, -1);
        CHECK.due("stages()", x.stages(), 2);
    }

    /** 1 has the value 10, 2 FAILED with the KIND 9, 3 is CALLED OFF; NOW is 1. */
    private static PromiseKitchen ofEachEnd() {
        PromiseKitchen x = new PromiseKitchen();
        x.value(10);
        x.failed(9);
        x.task(60, 0, 0);
        x.callOff(3, 0);
        x.run(1);
        return x;
    }

    private static void endAsEachWay() {
        CHECK.about("To END AS another stage: with its value, with the same FAILURE, or CALLED OFF");
        int[] ends = {VALUE, FAILED, CALLED_OFF};
        for (int s = 1; s <= 3; s++) {
            PromiseKitchen x = ofEachEnd();
            int[] made = {x.then(s, 0, 0), x.both(s, s, 2), x.first(s, s), x.all(s, 1), x.any(s, 1, 1), x.limit(s, 9),
                x.onFailure(s, 2, 1), x.onFailure(2, 4, s), x.always(s, 1, 0, 7)};
            x.run(3);
            for (int i = 0; i < made.length; i++) {
                CHECK.due("state(" + made[i] + ") of one that ends as " + s, x.state(made[i]), ends[s - 1]);
                if (s == 1) {
                    CHECK.due("answer(" + made[i] + ")", x.answer(made[i]), 10);
                }
            }
        }
    }

    /** The FAILURES of any() over the stages of these numbers, of which each FAILED with the FAILURE of stage 1. */
    private static void dueTheSame(String call, ToIntFunction<PromiseKitchen> made) {
        PromiseKitchen x = new PromiseKitchen();
        x.failed(9);
        CHECK.due(call, made.applyAsInt(x), 2);
        CHECK.dueFailures(x, 2, row(9, 1, -4, 0));
        x.any(1, 2, 2);
        CHECK.dueFailures(x, 3, row(2, 3, -4, 0), row(9, 1, 0, 1));
    }

    private static void endAsWithTheSameFailure() {
        CHECK.about("To END AS another stage: with the same FAILURE (which stands but once in a row)");
        dueTheSame("then(1, 0, 0)", x -> x.then(1, 0, 0));
        dueTheSame("both(1, 1, 0)", x -> x.both(1, 1, 0));
        dueTheSame("first(1, 1)", x -> x.first(1, 1));
        dueTheSame("all(1, 1)", x -> x.all(1, 1));
        dueTheSame("limit(1, 1)", x -> x.limit(1, 1));
        dueTheSame("onFailure(1, 2, 1), AS s", x -> x.onFailure(1, 2, 1));
        dueTheSame("onFailure(1, 4, 1), AS other", x -> x.onFailure(1, 4, 1));

        PromiseKitchen x = new PromiseKitchen();
        x.failed(9);
        x.always(1, 1, 0, 0);
        x.run(2);
        x.any(1, 3, 3);
        CHECK.dueFailures(x, 4, row(2, 4, -4, 0), row(9, 1, 0, 1));

        x = new PromiseKitchen();
        x.value(1);
        x.always(1, 1, 4, 9);
        x.run(2);
        x.any(2, 2, 2);
        CHECK.dueFailures(x, 4, row(2, 4, -4, 0), row(9, 2, 0, 1));
    }

    /** A kitchen at minute 5 with the value 1000, where the only work is of this form; the number of the work is 2. */
    private static PromiseKitchen withWork(int form, int kind, int a) {
        PromiseKitchen x = new PromiseKitchen();
        x.run(5);
        x.value(1000);
        switch (form) {
            case 0:
                x.task(4, kind, a);
                break;
            case 1:
                x.retry(4, kind, a, 1, 1);
                break;
            case 2:
                x.always(1, 4, kind, a);
                break;
            default:
                x.nested(4, kind, a, 1);
                break;
        }
        return x;
    }

    private static void functionsOfEachWork() {
        CHECK.about("Their function of kind, a, w and b: kind 0: a. 1: a + w. 2: a ^ b. 3: a * w + b; 4 fails: a & 15");
        String[] forms = {"task", "retry", "closing work", "nested"};
        int[] due = {100, 101, 100 ^ 5, 105};
        for (int form = 0; form < forms.length; form++) {
            for (int kind = 0; kind <= 3; kind++) {
                PromiseKitchen x = withWork(form, kind, 100);
                x.run(10);
                CHECK.dueRow("answer(2), end(2, 0) of a " + forms[form] + " of kind " + kind,
                        row(x.answer(2), x.end(2, 0)), form == 3 ? 1000 + due[kind] : due[kind], 9);
            }
            PromiseKitchen x = withWork(form, 4, 32 + 6);
            x.run(10);
            CHECK.dueFailures(x, 2, row(6, 2, -4, 0));
        }
    }

    private static void planOfEachWork() {
        CHECK.about("If THE PLAN has this stage and this w, the WORKING fails with the KIND planned, whatever its kind");
        for (int form = 0; form <= 3; form++) {
            for (int kind = 0; kind <= 4; kind++) {
                PromiseKitchen x = withWork(form, kind, 32 + 6);
                x.plan(2, 1, 11);
                x.run(10);
                CHECK.dueFailures(x, 2, row(11, 2, -4, 0));
                x = withWork(form, kind, 32 + 6);
                x.plan(2, 2, 11);
                x.run(10);
                CHECK.due("state(2), another WORKING is planned", x.state(2), kind == 4 ? FAILED : VALUE);
            }
        }
    }

    private static void lowestPlaceOfThoseWithoutAValue() {
        CHECK.about("both, all: AS the one with the lowest PLACE of those that ended without a value");
        // the minutes at which 2 FAILS and 3 is CALLED OFF; 1 has a value from the start
        int[][] due = {{3, 4, FAILED}, {3, 2, CALLED_OFF}, {3, 3, CALLED_OFF}};
        for (int[] d : due) {
            PromiseKitchen x = new PromiseKitchen();
            x.cooks(2);
            x.value(1);
            x.task(d[0], 4, 9);
            x.task(60, 0, 0);
            x.callOff(3, d[1]);
            x.both(2, 3, 0);
            x.both(3, 2, 0);
            x.all(1, 3);
            // so that 2 serves one that goes on, and is not CALLED OFF by DUES
            x.then(2, 0, 0);
            x.run(6);
            CHECK.dueRow("stages that were made before", Check.states(x, 4, 5, 6), d[2], d[2], d[2]);
            CHECK.dueRow("stages made behind that", Check.states(x, x.both(2, 3, 0), x.both(3, 2, 0), x.all(1, 3),
                    x.both(1, 2, 0), x.both(3, 1, 0)), d[2], d[2], d[2], FAILED, CALLED_OFF);
        }
    }

    private static void lowerPlaceForFirst() {
        CHECK.about("first: when one has ended: AS the one with the lower PLACE, whatever way it ended");
        for (int early = 1; early <= 3; early++) {
            PromiseKitchen x = ofEachEnd();
            for (int late = early + 1; late <= 3; late++) {
                CHECK.dueRow("first(" + early + ", " + late + "), and the other way round",
                        Check.states(x, x.first(early, late), x.first(late, early)), 4 + early, 4 + early);
            }
        }
    }

    private static void askedWhenAnInputEnds() {
        CHECK.about("RULES: asked whenever an INPUT ends (and at once when they are made)");
        PromiseKitchen x = new PromiseKitchen();
        x.cooks(2);
        x.task(2, 0, 10);
        x.task(4, 0, 20);
        x.then(2, 0, 1);
        x.both(1, 2, 0);
        x.first(2, 1);
        x.all(1, 2);
        x.any(1, 2, 2);
        x.onFailure(1, 0, 2);
        x.limit(2, 9);
        CHECK.dueRow("when they are made", Check.states(x, 3, 4, 5, 6, 7, 8, 9), 0, 0, 0, 0, 0, 0, 0);
        x.run(3);
        CHECK.dueRow("when 1 has ended", Check.states(x, 3, 4, 5, 6, 7, 8, 9), 0, 0, VALUE, 0, 0, VALUE, 0);
        x.run(5);
        CHECK.dueRow("when 2 has ended", row(x.answer(3), x.answer(4), x.answer(6), x.answer(7), x.answer(9)),
                21, 30, 30, 20, 20);
        CHECK.dueRow("answer(5), answer(8)", row(x.answer(5), x.answer(8)), 10, 10);
        CHECK.dueRow("PLACES: by number", row(x.end(1, 1), x.end(5, 1), x.end(8, 1), x.end(2, 1), x.end(3, 1), x.end(4, 1),
                x.end(6, 1), x.end(7, 1), x.end(9, 1)), 1, 2, 3, 4, 5, 6, 7, 8, 9);
    }

    private static void otherThatEndedBefore() {
        CHECK.about("onFailure: When s FAILED with a KIND UNDER k: AS other, which may have ended before");
        int[] ends = {VALUE, FAILED, CALLED_OFF};
        for (int other = 1; other <= 3; other++) {
            PromiseKitchen x = ofEachEnd();
            x.task(2, 4, 15);
            x.onFailure(4, 3, other);
            x.onFailure(4, 4, other);
            x.run(3);
            CHECK.dueRow("states before s ends", Check.states(x, 4, 5, 6), 2, 0, 0);
            x.run(4);
            CHECK.dueRow("states", Check.states(x, 4, 5, 6), FAILED, ends[other - 1], FAILED);
            CHECK.dueFailures(x, 6, row(15, 4, -4, 0));
        }
    }

    private static void failedLimitIsAsAnyFailedStage() {
        CHECK.about("limit: FAILED, KIND 5 AT this stage: what has it as an INPUT is asked, its own INPUT behind that");
        PromiseKitchen x = new PromiseKitchen();
        x.task(60, 0, 0);
        x.limit(1, 2);
        x.value(7);
        x.onFailure(2, 2, 3);
        x.onFailure(2, 6, 3);
        x.nested(2, 0, 0, 2);
        x.run(3);
        // 6 is taken at 0, WAITS at 1 and helps with 1; at 2 the limit FAILS and 1 is CALLED OFF, 6 is RESUMED
        CHECK.dueLog(x, row(0, 3, 2), row(0, 6, 1), row(1, 6, 5), row(1, 1, 1), row(2, 2, 3), row(2, 4, 2), row(2, 5, 3),
                row(2, 1, 4), row(2, 6, 6), row(2, 6, 3));
        CHECK.dueFailures(x, 6, row(12, 6, -4, 0), row(5, 2, 0, 1));
        CHECK.dueFailures(x, 5, row(5, 2, -4, 0));
    }
}
