/**
 * Promises 16 to 30: the sentences that name a border, a test for each; about() names the promise and the sentence.
 * Each number is tried just inside and just outside its borders, and what is refused must change nothing.
 */
public final class EdgesOfAskingTest {
    private static final int LEAST = Integer.MIN_VALUE;
    private static final int MOST = Integer.MAX_VALUE;
    private static final int FULL = -2;
    private static final int NOW = Kitchens.BUSY_NOW;
    private static final int LAST_STAGE = Kitchens.BUSY_STAGES;
    private static final Check CHECK = new Check();
    private static final Refusals IN_BUSY = new Refusals(CHECK, Kitchens::busy);
    private static final Refusals IN_FORMS = new Refusals(CHECK, Kitchens::formsOfAll);
    private static final Refusals IN_EMPTY = new Refusals(CHECK, x -> x.run(2));
    private static final Refusals IN_PLANNED = new Refusals(CHECK, Kitchens::plannedFull);

    public static void main(String[] args) {
        promise16Numbers();
        promise16Works();
        promise16Full();
        promise16PlannedAgain();
        promise16Done();
        promise16SixthWorking();
        promise17();
        promise18Minutes();
        promise18Stages();
        promise18NamedBefore();
        promise19();
        promise19LastMinute();
        promise20();
        promise21();
        promise22();
        promise23();
        promise24Places();
        promise24Refused();
        promise24StandsOnce();
        promise25();
        promise26();
        promise27Cooks();
        promise27Idle();
        promise28();
        promise29();
        promise30();
        CHECK.finish();
    }

    private static int[] row(int... cells) {
        return cells;
    }

    private static int[] asked(PromiseKitchen x, Refusals.Call call, int... numbers) {
        int[] answers = new int[numbers.length];
        for (int i = 0; i < numbers.length; i++) {
            answers[i] = call.on(x, numbers[i]);
        }
        return answers;
    }

    private static void dueThrow(String call, Class<? extends RuntimeException> want, Refusals kitchen,
            Refusals.Call refused, int... numbers) {
        for (int n : numbers) {
            kitchen.thrown(call + " with n = " + n, want, x -> refused.on(x, n));
        }
    }

    private static PromiseKitchen at(int minute) {
        PromiseKitchen x = new PromiseKitchen();
        runTo(x, minute);
        return x;
    }

    private static void runTo(PromiseKitchen x, int minute) {
        while (x.now() < minute) {
            x.run(Math.min(minute, x.now() + 400));
        }
    }

    private static void promise16Numbers() {
        CHECK.about("promise 16: the time-th WORKING (1 .. 6). BAD");
        CHECK.dueRow("plan(5, 1 and 6, 0)", asked(IN_BUSY.kitchen(), (x, n) -> x.plan(5, n, 0), 1, 6), 4, 5);
        IN_BUSY.badOutside("plan(5, n, 0)", 1, 6, (x, n) -> x.plan(5, n, 0));
        CHECK.about("promise 16: the KIND k (0 .. 15). BAD");
        CHECK.dueRow("plan(5, 1, 0 and 15)", asked(IN_BUSY.kitchen(), (x, n) -> x.plan(5, 1, n), 0, 15), 4, 4);
        IN_BUSY.badOutside("plan(5, 1, n)", 0, 15, (x, n) -> x.plan(5, 1, n));
        IN_BUSY.badOutside("plan(7, 2, n), planned before", 0, 15, (x, n) -> x.plan(7, 2, n));
        for (int k : row(0, 15)) {
            PromiseKitchen x = new PromiseKitchen();
            x.task(1, 0, 5);
            x.plan(1, 1, k);
            x.run(2);
            CHECK.dueRow("state(1), failure(1, 0, 0)", row(x.state(1), x.failure(1, 0, 0)), 6, k);
        }
    }

    private static void promise16Works() {
        CHECK.about("promise 16: a stage that has been made and is a WORK. BAD");
        int plans = 0;
        PromiseKitchen x = IN_FORMS.kitchen();
        for (int s : Kitchens.WORKS_OF_FORMS) {
            plans++;
            CHECK.due("plan(" + s + ", 1, 0)", x.plan(s, 1, 0), plans);
        }
        for (int s : Kitchens.OTHERS_OF_FORMS) {
            IN_FORMS.bad("plan(" + s + ", 1, 0)", kitchen -> kitchen.plan(s, 1, 0));
        }
        IN_FORMS.badOutside("plan(n, 1, 0)", 1, Kitchens.FORMS, (kitchen, n) -> kitchen.plan(n, 1, 0));
        Refusals onlyWorks = new Refusals(CHECK, kitchen -> {
            kitchen.task(3, 0, 0);
            kitchen.task(3, 0, 0);
        });
        CHECK.dueRow("plan(1 and 2, 1, 0)", asked(onlyWorks.kitchen(), (k, n) -> k.plan(n, 1, 0), 1, 2), 1, 2);
        onlyWorks.badOutside("plan(n, 1, 0)", 1, 2, (kitchen, n) -> kitchen.plan(n, 1, 0));
    }

    private static void promise16Full() {
        CHECK.about("promise 16: How many plans there are. FULL: 64 plans");
        PromiseKitchen x = new PromiseKitchen();
        for (int s = 1; s <= 11; s++) {
            x.retry(1, 0, 0, 5, 1);
        }
        for (int i = 0; i < 64; i++) {
            CHECK.due("plan " + (i + 1), x.plan(1 + i / 6, 1 + i % 6, 3), i + 1);
        }
        IN_PLANNED.answered("plan(11, 5, 2), the 65th", k -> k.plan(11, 5, 2), FULL);
        IN_PLANNED.bad("plan(11, 5, 16), the 65th", k -> k.plan(11, 5, 16));
        IN_PLANNED.bad("plan(12, 1, 2), the 65th", k -> k.plan(12, 1, 2));
        x = IN_PLANNED.kitchen();
        CHECK.dueRow("plan(11, 5, 3), clearPlan(), plan(11, 5, 3)", row(x.plan(11, 5, 3), x.clearPlan(), x.plan(11, 5, 3)),
                -2, 64, 1);
    }

    private static void promise16PlannedAgain() {
        CHECK.about("promise 16: planned again, also when there are 64: the newer one holds, no more plans than before");
        PromiseKitchen x = IN_PLANNED.kitchen();
        CHECK.dueRow("the first and the last of 64 again", row(x.plan(1, 1, 2), x.plan(11, 4, 5), x.plan(11, 4, 6)),
                64, 64, 64);
        x.run(400);
        CHECK.dueRow("failure(1, 0, 0), failure(11, 0, 0), work(1, 1), work(11, 1), clearPlan()", row(x.failure(1, 0, 0),
                x.failure(11, 0, 0), x.work(1, 1), x.work(11, 1), x.clearPlan()), 2, 6, 1, 4, 64);

        x = new PromiseKitchen();
        x.task(1, 0, 0);
        x.task(1, 0, 0);
        CHECK.dueRow("plan()", row(x.plan(1, 1, 3), x.plan(1, 2, 4), x.plan(2, 1, 5), x.plan(1, 1, 6), x.plan(1, 1, 6)),
                1, 2, 3, 3, 3);
        x.run(4);
        CHECK.dueRow("failure(1, 0, 0), failure(2, 0, 0)", row(x.failure(1, 0, 0), x.failure(2, 0, 0)), 6, 5);
    }

    private static void promise16Done() {
        CHECK.about("promise 16: a plan for a WORKING that is done changes nothing of it");
        PromiseKitchen x = new PromiseKitchen();
        x.task(1, 0, 5);
        x.run(2);
        x.task(1, 4, 9);
        x.run(4);
        CHECK.dueRow("plan() for ended works", row(x.plan(1, 1, 3), x.plan(2, 1, 4)), 1, 2);
        x.run(9);
        CHECK.dueRow("answer(1), end(1, 0), failure(2, 0, 0)", row(x.answer(1), x.end(1, 0), x.failure(2, 0, 0)), 5, 1, 9);

        x = new PromiseKitchen();
        x.retry(1, 0, 5, 2, 4);
        x.plan(1, 1, 3);
        x.run(2);
        CHECK.dueRow("in the pause, plan() for the first and second", row(x.plan(1, 1, 0), x.plan(1, 2, 6)), 1, 2);
        CHECK.due("state(1)", x.state(1), 4);
        x.run(9);
        CHECK.dueRow("its failures: 6, then the 3 of the WORKING that was done", row(x.failure(1, 0, 0),
                x.failure(1, 1, 0), x.failure(1, 1, 3)), 6, 3, 2);
    }

    private static void promise16SixthWorking() {
        CHECK.about("promise 16: the sixth WORKING");
        PromiseKitchen x = new PromiseKitchen();
        x.retry(1, 1, 100, 5, 1);
        for (int time = 1; time <= 5; time++) {
            x.plan(1, time, 1);
        }
        x.run(60);
        CHECK.due("answer(1): only five are planned", x.answer(1), 106);

        x = new PromiseKitchen();
        x.retry(1, 1, 100, 5, 1);
        for (int time = 1; time <= 6; time++) {
            x.plan(1, time, 1);
        }
        x.run(60);
        CHECK.dueRow("state(1), work(1, 1), work(1, 3)", row(x.state(1), x.work(1, 1), x.work(1, 3)), 6, 6, 5);
    }

    private static void promise17() {
        CHECK.about("promise 17: THE PLAN is empty: how many plans there were");
        PromiseKitchen x = IN_PLANNED.kitchen();
        CHECK.dueRow("clearPlan() of 64, of none", row(x.clearPlan(), x.clearPlan()), 64, 0);
        CHECK.due("plan(1, 1, 0)", x.plan(1, 1, 0), 1);
        CHECK.due("clearPlan() of one", x.clearPlan(), 1);
        for (int i = 0; i < 64; i++) {
            CHECK.due("plan " + (i + 1) + " behind that", x.plan(1 + i / 6, 1 + i % 6, 2), i + 1);
        }
        CHECK.due("the 65th", x.plan(11, 5, 2), -2);
        x.clearPlan();
        x.run(20);
        CHECK.dueRow("states: none fails", asked(x, (k, n) -> k.state(n), 1, 6, 11), 5, 5, 5);
        IN_EMPTY.answered("clearPlan() of an empty one", k -> k.clearPlan(), 0);
    }

    private static void promise18Minutes() {
        CHECK.about("promise 18: the minute (NOW .. 10000). Answers 1. BAD");
        CHECK.dueRow("callOff(5, NOW and 10000)", asked(IN_BUSY.kitchen(), (x, n) -> x.callOff(5, n), NOW, 10000), 1, 1);
        IN_BUSY.badOutside("callOff(5, n)", NOW, 10000, (x, n) -> x.callOff(5, n));
        IN_BUSY.badOutside("callOff(13, n), named before", NOW, 10000, (x, n) -> x.callOff(13, n));
        PromiseKitchen x = new PromiseKitchen();
        x.task(60, 0, 0);
        x.task(60, 0, 0);
        CHECK.dueRow("callOff(1, -1), callOff(1, 0)", row(x.callOff(1, -1), x.callOff(1, 0)), -1, 1);
        CHECK.due("state(1): not before the minute is TREATED", x.state(1), 1);
        x.run(1);
        CHECK.dueRow("state(1), end(1, 0)", row(x.state(1), x.end(1, 0)), 7, 0);

        x = at(9999);
        x.task(60, 0, 0);
        x.task(60, 0, 0);
        CHECK.dueRow("callOff(1, 9999), callOff(2, 10000)", row(x.callOff(1, 9999), x.callOff(2, 10000)), 1, 1);
        x.run(10000);
        CHECK.dueRow("states at 10000", row(x.state(1), x.state(2)), 7, 2);
        CHECK.dueRow("callOff(2, 9999, 10000, 10001)", asked(x, (k, n) -> k.callOff(2, n), 9999, 10000, 10001), -1, 1, -1);
    }

    private static void promise18Stages() {
        CHECK.about("promise 18: BAD (also a stage that has ended)");
        IN_BUSY.badOutside("callOff(n, 20)", 1, LAST_STAGE, (x, n) -> x.callOff(n, 20));
        for (int s : row(1, 2, 3, 4, 12, 14)) {
            IN_BUSY.bad("callOff(" + s + ", 20), it has ended", x -> x.callOff(s, 20));
        }
        for (int s : row(5, 6, 7, 8, 9, 10, 11, 13, 15)) {
            PromiseKitchen x = IN_BUSY.kitchen();
            CHECK.due("callOff(" + s + ", " + NOW + ")", x.callOff(s, NOW), 1);
            x.run(NOW + 1);
            CHECK.dueRow("state(" + s + "), end(" + s + ", 0)", row(x.state(s), x.end(s, 0)), 7, NOW);
        }
    }

    private static void promise18NamedBefore() {
        CHECK.about("promise 18: one named before for it goes");
        int[][] due = {{3, 5, 7, 5}, {5, 3, 7, 3}, {3, 10000, 5, 8}, {10000, 0, 7, 0}, {4, 4, 7, 4}};
        for (int[] d : due) {
            PromiseKitchen x = new PromiseKitchen();
            x.task(8, 0, 0);
            x.callOff(1, d[0]);
            CHECK.due("callOff(1, " + d[1] + ") behind callOff(1, " + d[0] + ")", x.callOff(1, d[1]), 1);
            x.run(10);
            CHECK.dueRow("state(1), end(1, 0)", row(x.state(1), x.end(1, 0)), d[2], d[3]);
        }
        PromiseKitchen x = new PromiseKitchen();
        x.task(8, 0, 0);
        x.task(8, 0, 0);
        x.callOff(1, 3);
        x.callOff(2, 4);
        x.run(5);
        CHECK.dueRow("that of another stage stays", row(x.end(1, 0), x.end(2, 0)), 3, 4);
    }

    private static void promise19() {
        CHECK.about("promise 19: until: NOW .. NOW + 400. Answers until. BAD");
        CHECK.due("run(NOW)", IN_BUSY.kitchen().run(NOW), NOW);
        IN_BUSY.unchanged("run(NOW)", x -> x.run(NOW));
        CHECK.due("run(NOW + 400)", IN_BUSY.kitchen().run(NOW + 400), NOW + 400);
        IN_BUSY.badOutside("run(n)", NOW, NOW + 400, (x, n) -> x.run(n));
        PromiseKitchen x = new PromiseKitchen();
        CHECK.dueRow("run(-1, 401, 0, 400), now()", row(x.run(-1), x.run(401), x.run(0), x.run(400), x.now()),
                -1, -1, 0, 400, 400);
        CHECK.about("promise 19: The minutes NOW .. until - 1 are TREATED");
        CHECK.due("cook(1, 1)", x.cook(1, 1), 400);
        x.task(60, 0, 0);
        x.run(401);
        CHECK.dueRow("log(0, 0), log(1, 0)", row(x.log(0, 0), x.log(1, 0)), 400, -1);
        CHECK.about("promise 19: minutes in one run are as minutes in many");
        PromiseKitchen many = IN_BUSY.kitchen();
        PromiseKitchen one = IN_BUSY.kitchen();
        for (int minute = NOW + 1; minute <= NOW + 200; minute++) {
            many.run(minute);
        }
        one.run(NOW + 200);
        for (int i = 0; one.log(i, 0) >= 0 || many.log(i, 0) >= 0; i++) {
            CHECK.dueRow("log(" + i + ", 0 to 2)", row(many.log(i, 0), many.log(i, 1), many.log(i, 2)),
                    one.log(i, 0), one.log(i, 1), one.log(i, 2));
        }
    }

    private static void promise19LastMinute() {
        CHECK.about("promise 19: at most 10000. BAD");
        Refusals early = new Refusals(CHECK, x -> runTo(x, 9599));
        early.bad("run(10000), 401 minutes on", x -> x.run(10000));
        CHECK.due("run(9999)", early.kitchen().run(9999), 9999);
        Refusals exact = new Refusals(CHECK, x -> runTo(x, 9600));
        CHECK.due("run(10000), 400 minutes on", exact.kitchen().run(10000), 10000);
        exact.bad("run(10001)", x -> x.run(10001));
        Refusals late = new Refusals(CHECK, x -> runTo(x, 9700));
        late.bad("run(10001), 301 minutes on", x -> x.run(10001));
        CHECK.due("run(10000)", late.kitchen().run(10000), 10000);
        Refusals last = new Refusals(CHECK, x -> {
            runTo(x, 9990);
            x.task(20, 0, 0);
            runTo(x, 10000);
        });
        last.answered("run(10000) at 10000", x -> x.run(10000), 10000);
        last.bad("run(10001) at 10000", x -> x.run(10001));
        last.bad("run(9999) at 10000", x -> x.run(9999));
        last.bad("run(10400) at 10000", x -> x.run(10400));
        CHECK.dueRow("cook(1, 1), state(1)", row(last.kitchen().cook(1, 1), last.kitchen().state(1)), 9990, 2);
        PromiseKitchen x = last.kitchen();
        CHECK.dueRow("end(value(3), 0), task(), its state", row(x.end(x.value(3), 0), x.task(1, 0, 0), x.state(3)),
                10000, 3, 1);
    }

    private static void promise20() {
        CHECK.about("promise 20: NOW");
        PromiseKitchen x = new PromiseKitchen();
        CHECK.dueRow("now(), run(0), now(), run(1), now()", row(x.now(), x.run(0), x.now(), x.run(1), x.now()), 0, 0, 0, 1, 1);
        CHECK.dueRow("run(0), now(), run(402), now()", row(x.run(0), x.now(), x.run(402), x.now()), -1, 1, -1, 1);
        CHECK.due("now() at the last", at(10000).now(), 10000);
        IN_BUSY.unchanged("now()", k -> k.now());
    }

    private static void promise21() {
        CHECK.about("promise 21: 0 .. 7");
        PromiseKitchen x = IN_BUSY.kitchen();
        CHECK.dueRow("no work, not ended; HELD", asked(x, (k, n) -> k.state(n), 9, 10, 11, 15, 8), 0, 0, 0, 0, 0);
        CHECK.dueRow("READY, at work, WAITS, PAUSES", asked(x, (k, n) -> k.state(n), 13, 5, 6, 7), 1, 2, 3, 4);
        CHECK.dueRow("value, FAILED, CALLED OFF", asked(x, (k, n) -> k.state(n), 1, 14, 12), 5, 6, 7);
        CHECK.about("promise 21: BAD");
        IN_BUSY.badOutside("state(n)", 1, LAST_STAGE, (k, n) -> k.state(n));
        CHECK.dueRow("state(1 and 15)", asked(x, (k, n) -> k.state(n), 1, LAST_STAGE), 5, 0);
        IN_EMPTY.badOutside("state(n) without stages", 1, 0, (k, n) -> k.state(n));
        IN_BUSY.unchanged("state(5)", k -> k.state(5));
    }

    private static void promise22() {
        CHECK.about("promise 22: The value of a stage");
        PromiseKitchen x = new PromiseKitchen();
        int[] values = {LEAST, -3, -2, -1, 0, MOST};
        for (int s = 1; s <= values.length; s++) {
            x.value(values[s - 1]);
            CHECK.due("answer(" + s + ")", x.answer(s), values[s - 1]);
        }
        CHECK.about("promise 22: IllegalArgumentException: there is no such stage");
        dueThrow("answer(n)", IllegalArgumentException.class, IN_BUSY, (k, n) -> k.answer(n), 0, LAST_STAGE + 1, -1, 200,
                201, LEAST, MOST);
        dueThrow("answer(n) without stages", IllegalArgumentException.class, IN_EMPTY, (k, n) -> k.answer(n), 0, 1);
        CHECK.about("promise 22: IllegalStateException: it has none (not ended yet, FAILED, CALLED OFF)");
        dueThrow("answer(n), not ended", IllegalStateException.class, IN_BUSY, (k, n) -> k.answer(n), 5, 6, 7, 8, 9, 10,
                11, 13, 15);
        dueThrow("answer(n), FAILED", IllegalStateException.class, IN_BUSY, (k, n) -> k.answer(n), 4, 14);
        dueThrow("answer(n), CALLED OFF", IllegalStateException.class, IN_BUSY, (k, n) -> k.answer(n), 12);
        IN_BUSY.unchanged("answer(1)", k -> k.answer(1));
    }

    private static void promise23() {
        CHECK.about("promise 23: what = 0: the minute of its end, 1: its PLACE");
        PromiseKitchen x = IN_BUSY.kitchen();
        // ends: 1 at 3, 2 at 4, 3 at 5, 4 at 6, 12 at 7, 14 at 10
        CHECK.dueRow("minutes", asked(x, (k, n) -> k.end(n, 0), 1, 2, 3, 4, 12, 14), 3, 4, 5, 6, 7, 10);
        CHECK.dueRow("PLACES", asked(x, (k, n) -> k.end(n, 1), 1, 2, 3, 4, 12, 14), 1, 2, 3, 4, 5, 6);
        CHECK.about("promise 23: -3 both: it has not ended");
        for (int s : row(5, 6, 7, 8, 9, 10, 11, 13, 15)) {
            CHECK.dueRow("end(" + s + ", 0 and 1)", row(x.end(s, 0), x.end(s, 1)), -3, -3);
        }
        CHECK.about("promise 23: BAD");
        IN_BUSY.badOutside("end(n, 0)", 1, LAST_STAGE, (k, n) -> k.end(n, 0));
        IN_BUSY.badOutside("end(1, n)", 0, 1, (k, n) -> k.end(1, n));
        IN_BUSY.badOutside("end(5, n), not ended", 0, 1, (k, n) -> k.end(5, n));
        IN_EMPTY.badOutside("end(n, 0) without stages", 1, 0, (k, n) -> k.end(n, 0));
    }

    /** 6 FAILED: KIND 2, CAUSE that of 5 (KIND 2, CAUSE that of 4, SUPPRESSED that of 3), SUPPRESSED that of 4. */
    private static void tree(PromiseKitchen x) {
        x.value(0);
        x.task(60, 0, 0);
        x.failed(7);
        x.failed(8);
        x.any(3, 2, 1);
        x.any(4, 2, 1);
        x.task(60, 0, 0);
        x.callOff(7, 0);
        x.run(1);
    }

    private static void promise24Places() {
        CHECK.about("promise 24: Of the i-th (from 0): what = 0 .. 3");
        PromiseKitchen x = new PromiseKitchen();
        tree(x);
        int[][] due = {{2, 6, -4, 0}, {2, 5, 0, 1}, {8, 4, 1, 1}, {7, 3, 1, 2}};
        for (int i = 0; i < due.length; i++) {
            CHECK.dueRow("failure(6, " + i + ", 0 to 3)", row(x.failure(6, i, 0), x.failure(6, i, 1), x.failure(6, i, 2),
                    x.failure(6, i, 3)), due[i]);
        }
        CHECK.dueRow("failure(3, 0, 0 to 3), a tree of one", row(x.failure(3, 0, 0), x.failure(3, 0, 1),
                x.failure(3, 0, 2), x.failure(3, 0, 3)), 7, 3, -4, 0);
        CHECK.about("promise 24: IndexOutOfBoundsException: there is no i-th");
        Refusals inTree = new Refusals(CHECK, EdgesOfAskingTest::tree);
        dueThrow("failure(6, n, 0)", IndexOutOfBoundsException.class, inTree, (k, n) -> k.failure(6, n, 0), -1, 4, 5,
                LEAST, MOST);
        dueThrow("failure(6, n, 2)", IndexOutOfBoundsException.class, inTree, (k, n) -> k.failure(6, n, 2), -4, -1, 4);
        dueThrow("failure(3, n, 3)", IndexOutOfBoundsException.class, inTree, (k, n) -> k.failure(3, n, 3), -1, 1);
        inTree.unchanged("failure(6, 3, 2)", k -> k.failure(6, 3, 2));
    }

    private static void promise24Refused() {
        CHECK.about("promise 24: IllegalArgumentException: no such stage or what");
        Refusals inTree = new Refusals(CHECK, EdgesOfAskingTest::tree);
        dueThrow("failure(n, 0, 0)", IllegalArgumentException.class, inTree, (k, n) -> k.failure(n, 0, 0), 0, 8, LEAST, MOST);
        dueThrow("failure(6, 0, n)", IllegalArgumentException.class, inTree, (k, n) -> k.failure(6, 0, n), -1, 4, LEAST, MOST);
        CHECK.about("promise 24: IllegalStateException: it did not FAIL");
        dueThrow("failure(n, 0, 0)", IllegalStateException.class, inTree, (k, n) -> k.failure(n, 0, 0), 1, 2, 7);
        CHECK.about("promise 24: where two of them hold, the one told first");
        dueThrow("failure(1, 0, n)", IllegalArgumentException.class, inTree, (k, n) -> k.failure(1, 0, n), -1, 4);
        dueThrow("failure(6, 99, n)", IllegalArgumentException.class, inTree, (k, n) -> k.failure(6, 99, n), -1, 4);
        dueThrow("failure(0, n, 0)", IllegalArgumentException.class, inTree, (k, n) -> k.failure(0, n, 0), -1, 0);
        dueThrow("failure(1, n, 0)", IllegalStateException.class, inTree, (k, n) -> k.failure(1, n, 0), -1, 99);
    }

    private static void promise24StandsOnce() {
        CHECK.about("promise 24: one that stands already ahead of this place stands not again");
        PromiseKitchen x = new PromiseKitchen();
        x.failed(9);
        x.then(1, 0, 0);
        x.then(2, 0, 0);
        x.any(1, 3, 3);
        // CAUSE and SUPPRESSED ones are all the one FAILURE of 1
        CHECK.dueRow("failure(4, 1, 0 to 3)", row(x.failure(4, 1, 0), x.failure(4, 1, 1), x.failure(4, 1, 2),
                x.failure(4, 1, 3)), 9, 1, 0, 1);
        CHECK.dueThrow("failure(4, 2, 0)", IndexOutOfBoundsException.class, () -> x.failure(4, 2, 0));

        PromiseKitchen twins = new PromiseKitchen();
        twins.retry(1, 4, 1, 1, 1);
        twins.failed(1);
        twins.failed(1);
        twins.any(2, 2, 2);
        twins.run(9);
        CHECK.dueRow("FAILURES that are alike stand each", row(twins.failure(1, 1, 1), twins.failure(4, 1, 1),
                twins.failure(4, 2, 1)), 1, 3, 2);
    }

    private static void promise25() {
        CHECK.about("promise 25: the cook who took it last (0: none), WORKINGS, INTERRUPTED (0, 1), how often it PAUSED");
        PromiseKitchen x = IN_BUSY.kitchen();
        CHECK.dueRow("work(13, 0 to 3), never taken", asked(x, (k, n) -> k.work(13, n), 0, 1, 2, 3), 0, 0, 0, 0);
        CHECK.dueRow("work(7, 0 to 3), PAUSES", asked(x, (k, n) -> k.work(7, n), 0, 1, 2, 3), 2, 1, 0, 1);
        CHECK.dueRow("work(12, 0 to 3), CALLED OFF", asked(x, (k, n) -> k.work(12, n), 0, 1, 2, 3), 1, 1, 1, 0);
        CHECK.dueRow("work(3, 0 to 3), in two parts", asked(x, (k, n) -> k.work(3, n), 0, 1, 2, 3), 1, 1, 0, 0);
        CHECK.about("promise 25: BAD");
        IN_BUSY.badOutside("work(13, n)", 0, 3, (k, n) -> k.work(13, n));
        IN_FORMS.badOutside("work(n, 0)", 1, Kitchens.FORMS, (k, n) -> k.work(n, 0));
        Refusals onlyWorks = new Refusals(CHECK, k -> k.task(3, 0, 0));
        onlyWorks.badOutside("work(n, 1)", 1, 1, (k, n) -> k.work(n, 1));
        CHECK.about("promise 25: BAD (also a stage that is no work)");
        CHECK.dueRow("works of all forms", asked(IN_FORMS.kitchen(), (k, n) -> k.work(n, 0), Kitchens.WORKS_OF_FORMS),
                0, 0, 0, 0);
        for (int s : Kitchens.OTHERS_OF_FORMS) {
            IN_FORMS.bad("work(" + s + ", 0)", k -> k.work(s, 0));
            CHECK.due("work(" + s + ", 3)", IN_FORMS.kitchen().work(s, 3), -1);
        }
    }

    private static void promise26() {
        CHECK.about("promise 26: The i-th pause (from 1), was or is to be over. BAD (also one that was not)");
        Refusals twice = new Refusals(CHECK, x -> {
            x.retry(1, 4, 1, 5, 3);
            x.run(6);
        });
        // 0-1, a pause till 4; 4-5, a pause till 11
        CHECK.dueRow("pause(1, 1 and 2), state(1)", row(twice.kitchen().pause(1, 1), twice.kitchen().pause(1, 2),
                twice.kitchen().state(1)), 4, 11, 4);
        twice.badOutside("pause(1, n)", 1, 2, (x, n) -> x.pause(1, n));
        twice.badOutside("pause(n, 1)", 1, 1, (x, n) -> x.pause(n, 1));
        Refusals never = new Refusals(CHECK, x -> {
            x.retry(2, 4, 1, 5, 3);
            x.run(2);
        });
        never.badOutside("pause(1, n) before the first", 1, 0, (x, n) -> x.pause(1, n));
        for (int s = 1; s <= Kitchens.FORMS; s++) {
            int stage = s;
            IN_FORMS.bad("pause(" + s + ", 1)", x -> x.pause(stage, 1));
        }
        CHECK.about("promise 26: whatever came meanwhile");
        PromiseKitchen x = twice.kitchen();
        x.callOff(1, 8);
        x.run(20);
        CHECK.dueRow("state(1), pause(1, 1 to 3)", row(x.state(1), x.pause(1, 1), x.pause(1, 2), x.pause(1, 3)), 7, 4, 11, -1);
        x = at(9990);
        x.retry(1, 4, 1, 1, 30);
        x.run(10000);
        CHECK.dueRow("state(1), pause(1, 1) behind the last minute", row(x.state(1), x.pause(1, 1)), 4, 10021);
    }

    private static void promise27Cooks() {
        CHECK.about("promise 27: how often it HELPED, how many works its pile holds, its upmost work (0: none)");
        PromiseKitchen x = IN_BUSY.kitchen();
        CHECK.dueRow("cook(1, 0, 2, 3)", asked(x, (k, n) -> k.cook(1, n), 0, 2, 3), 1, 1, 6);
        CHECK.dueRow("cook(2, 0, 2, 3)", asked(x, (k, n) -> k.cook(2, n), 0, 2, 3), 0, 1, 5);
        CHECK.dueRow("cook(1, 0 to 3) of a new kitchen", asked(new PromiseKitchen(), (k, n) -> k.cook(1, n), 0, 1, 2, 3),
                0, 0, 0, 0);
        CHECK.about("promise 27: BAD");
        IN_BUSY.badOutside("cook(n, 0)", 1, 2, (k, n) -> k.cook(n, 0));
        IN_EMPTY.badOutside("cook(n, 3)", 1, 1, (k, n) -> k.cook(n, 3));
        IN_BUSY.badOutside("cook(1, n)", 0, 3, (k, n) -> k.cook(1, n));
        Refusals most = new Refusals(CHECK, k -> k.cooks(12));
        CHECK.due("cook(12, 3)", most.kitchen().cook(12, 3), 0);
        most.badOutside("cook(n, 2)", 1, 12, (k, n) -> k.cook(n, 2));
        most.bad("cook(13, 4)", k -> k.cook(13, 4));
    }

    private static void promise27Idle() {
        CHECK.about("promise 27: the TREATED minutes at whose end its pile was empty or its upmost work WAITED");
        PromiseKitchen x = new PromiseKitchen();
        CHECK.due("cook(1, 1), no minute TREATED", x.cook(1, 1), 0);
        x.run(1);
        CHECK.due("cook(1, 1), one", x.cook(1, 1), 1);
        x.task(2, 0, 0);
        x.run(3);
        CHECK.due("cook(1, 1), at work at the ends of 1 and 2", x.cook(1, 1), 1);
        x.run(4);
        CHECK.due("cook(1, 1), its work ended at 3", x.cook(1, 1), 2);
        x.task(1, 0, 0);
        x.task(1, 0, 0);
        x.run(6);
        CHECK.due("cook(1, 1), from one work to the next", x.cook(1, 1), 2);
        x.run(7);
        x.retry(1, 4, 1, 1, 3);
        x.nested(2, 0, 0, 4);
        x.run(9);
        // 5 at 7, it WAITS at 8 and 4 is taken then
        CHECK.dueRow("cook(1, 1), cook(1, 3)", row(x.cook(1, 1), x.cook(1, 3)), 3, 4);
        x.run(12);
        CHECK.dueRow("cook(1, 1), cook(1, 3), it WAITED at the ends of 9 to 11", row(x.cook(1, 1), x.cook(1, 3)), 6, 5);
        x.run(13);
        CHECK.dueRow("cook(1, 1), cook(1, 3), 4 is READY again at 12", row(x.cook(1, 1), x.cook(1, 3)), 6, 4);
    }

    private static void promise28() {
        CHECK.about("promise 28: How many stages that have not ended have it as an INPUT");
        PromiseKitchen x = new PromiseKitchen();
        x.task(1, 0, 0);
        CHECK.due("served(1), none", x.served(1), 0);
        for (int s = 2; s <= 200; s++) {
            x.then(1, 0, 0);
        }
        CHECK.dueRow("served(1), all others; served(200)", row(x.served(1), x.served(200)), 199, 0);
        x.callOff(200, 0);
        x.run(1);
        CHECK.due("served(1), one of them CALLED OFF", x.served(1), 198);
        x.run(2);
        CHECK.due("served(1), all ended", x.served(1), 0);

        x = IN_BUSY.kitchen();
        CHECK.dueRow("served() of the INPUTS of 6, 8, 9; 10; 9; 11; 15", asked(x, (k, n) -> k.served(n), 5, 6, 8, 10, 13),
                3, 1, 1, 1, 1);
        CHECK.dueRow("served() of ended ones, whose stages ended or not", asked(x, (k, n) -> k.served(n), 1, 2, 4, 12),
                0, 0, 1, 0);
        CHECK.about("promise 28: BAD");
        IN_BUSY.badOutside("served(n)", 1, LAST_STAGE, (k, n) -> k.served(n));
        IN_EMPTY.badOutside("served(n) without stages", 1, 0, (k, n) -> k.served(n));
    }

    private static void promise29() {
        CHECK.about("promise 29: How many stages there are");
        PromiseKitchen x = new PromiseKitchen();
        CHECK.dueRow("stages(), value(0), stages()", row(x.stages(), x.value(0), x.stages()), 0, 1, 1);
        CHECK.dueRow("always(1, 1, 0, 0), stages()", row(x.always(1, 1, 0, 0), x.stages()), 3, 3);
        CHECK.dueRow("always(1, 0, 0, 0), failed(-1), stages()", row(x.always(1, 0, 0, 0), x.failed(-1), x.stages()),
                -1, -1, 3);
        Kitchens.fill(x, 200);
        CHECK.dueRow("stages(), value(0), stages()", row(x.stages(), x.value(0), x.stages()), 200, -2, 200);
        CHECK.dueRow("state(200 and 201)", row(x.state(200), x.state(201)), 5, -1);
    }

    private static void promise30() {
        CHECK.about("promise 30: Entry i of THE LOG (from 0): its minute, its stage, its event");
        PromiseKitchen x = IN_BUSY.kitchen();
        CHECK.dueLog(x, row(0, 3, 1), row(0, 2, 1), row(1, 2, 5), row(1, 3, 5), row(1, 1, 1), row(3, 1, 2), row(3, 2, 6),
                row(4, 2, 2), row(4, 3, 6), row(5, 3, 2), row(6, 4, 3), row(6, 12, 1), row(6, 7, 1), row(7, 12, 4),
                row(7, 6, 1), row(8, 7, 7), row(8, 5, 1), row(9, 6, 5), row(10, 14, 3));
        CHECK.about("promise 30: BAD (also one that is not there)");
        IN_BUSY.badOutside("log(n, 0)", 0, 18, (k, n) -> k.log(n, 0));
        IN_BUSY.badOutside("log(n, 2)", 0, 18, (k, n) -> k.log(n, 2));
        IN_BUSY.badOutside("log(0, n)", 0, 2, (k, n) -> k.log(0, n));
        IN_BUSY.badOutside("log(18, n)", 0, 2, (k, n) -> k.log(18, n));
        IN_EMPTY.badOutside("log(n, 0) of an empty one", 0, -1, (k, n) -> k.log(n, 0));
        IN_BUSY.bad("log(MAX / 3 + 1, 1), three times which wraps", k -> k.log(MOST / 3 + 1, 1));
        CHECK.about("promise 30: a LOG of many entries");
        x = new PromiseKitchen();
        x.cooks(12);
        for (int s = 1; s <= 50; s++) {
            x.retry(1, 4, 1, 5, 1);
        }
        x.run(400);
        CHECK.dueRow("the last of 600 entries, and behind it", row(x.log(599, 2), x.log(600, 0)), 3, -1);
    }
}
