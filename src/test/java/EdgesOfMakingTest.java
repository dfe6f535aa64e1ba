import java.util.function.ToIntFunction;

/**
 * Promises 1 to 15: the sentences that name a border, a test for each; about() names the promise and the sentence.
 * Each number is tried just inside and just outside its borders, and what is refused must change nothing.
 */
public final class EdgesOfMakingTest {
    private static final int LEAST = Integer.MIN_VALUE;
    private static final int MOST = Integer.MAX_VALUE;
    private static final int FULL = -2;
    private static final int BUSY = -3;
    private static final int LAST_STAGE = Kitchens.BUSY_STAGES;
    private static final Check CHECK = new Check();
    private static final Refusals IN_BUSY = new Refusals(CHECK, Kitchens::busy);
    private static final Refusals IN_WIDE = new Refusals(CHECK, Kitchens::wide);
    private static final Refusals IN_FULL = new Refusals(CHECK, Kitchens::full);

    public static void main(String[] args) {
        promise1();
        promise2Number();
        promise2Anew();
        promise2Busy();
        promise3();
        promise4();
        promise5();
        promise6();
        promise7();
        promise8();
        promise9();
        promise10();
        promise11();
        promise12();
        promise12Full();
        promise13();
        promise14();
        promise15();
        CHECK.finish();
    }

    private static int[] row(int... cells) {
        return cells;
    }

    /** Just inside its borders the call makes a stage, just outside of them (and far from them) it is BAD. */
    private static void dueBorders(String call, int least, int most, Refusals.Call made) {
        dueBorders(call, IN_BUSY, LAST_STAGE + 1, row(least, most), made);
    }

    private static void dueBorders(String call, Refusals kitchen, int next, int[] borders, Refusals.Call made) {
        for (int n : borders) {
            CHECK.due(call + " with n = " + n, made.on(kitchen.kitchen(), n), next);
        }
        kitchen.badOutside(call, borders[0], borders[1], made);
    }

    /** Any number at all is taken. */
    private static void dueAnyNumber(String call, Refusals.Call made) {
        for (int n : row(LEAST, -1, 0, 1, MOST)) {
            CHECK.due(call + " with n = " + n, made.on(IN_BUSY.kitchen(), n), LAST_STAGE + 1);
        }
    }

    /** The 200th stage is made, the 201st is refused; a call that is BAD, too, is BAD. */
    private static void dueFull(String call, ToIntFunction<PromiseKitchen> good, ToIntFunction<PromiseKitchen> bad) {
        PromiseKitchen x = new PromiseKitchen();
        Kitchens.oneTooFewForTwo(x);
        CHECK.due(call + ", the 200th stage", good.applyAsInt(x), Kitchens.MOST_STAGES);
        IN_FULL.answered(call + ", the 201st stage", good, FULL);
        IN_FULL.bad(call + " of a wrong number, the 201st stage", bad);
    }

    private static void promise1() {
        CHECK.about("promise 1: One cook, no stages, an empty PLAN, minute 0");
        PromiseKitchen x = new PromiseKitchen();
        CHECK.dueRow("one cook", row(x.cook(0, 0), x.cook(1, 0), x.cook(1, 1), x.cook(1, 2), x.cook(1, 3), x.cook(2, 0)),
                -1, 0, 0, 0, 0, -1);
        CHECK.dueRow("no stages", row(x.stages(), x.state(0), x.state(1)), 0, -1, -1);
        CHECK.due("an empty PLAN", x.clearPlan(), 0);
        CHECK.due("minute 0", x.now(), 0);
        CHECK.due("an empty LOG", x.log(0, 0), -1);
        PromiseKitchen other = new PromiseKitchen();
        x.value(3);
        x.run(9);
        CHECK.dueRow("what is done to one is not done to another", row(other.stages(), other.now(), other.cook(1, 1)),
                0, 0, 0);
    }

    private static void promise2Number() {
        CHECK.about("promise 2: n cooks (1 .. 12) from now on. Answers n. BAD");
        for (int n : row(1, 2, 11, 12)) {
            PromiseKitchen x = new PromiseKitchen();
            CHECK.due("cooks(" + n + ")", x.cooks(n), n);
            CHECK.dueRow("cook(n and n + 1, 0)", row(x.cook(n, 0), x.cook(n + 1, 0)), 0, -1);
            for (int s = 1; s <= 13; s++) {
                x.task(9, 0, 0);
            }
            x.run(1);
            CHECK.dueRow("works of the last cook, READY ones", row(x.cook(n, 2), x.state(13 - n), x.state(14 - n)), 1, 1, 2);
        }
        Refusals idle = new Refusals(CHECK, x -> {
            x.cooks(3);
            x.run(2);
            x.task(5, 0, 0);
        });
        for (int n : row(0, 13, -1, LEAST, MOST)) {
            idle.bad("cooks(" + n + ")", x -> x.cooks(n));
            IN_BUSY.bad("cooks(" + n + "), BUSY, too", x -> x.cooks(n));
        }
    }

    private static void promise2Anew() {
        CHECK.about("promise 2: helped and idle begin anew at 0");
        PromiseKitchen x = new PromiseKitchen();
        x.cooks(3);
        x.task(1, 0, 0);
        x.nested(2, 0, 0, 1);
        x.nested(2, 0, 0, 2);
        x.cooks(2);
        x.run(9);
        CHECK.dueRow("cook(1, 0), cook(1, 1) > 0, cook(2, 1) > 0", row(x.cook(1, 0), x.cook(1, 1) > 0 ? 1 : 0,
                x.cook(2, 1) > 0 ? 1 : 0), 1, 1, 1);
        CHECK.due("cooks(1)", x.cooks(1), 1);
        CHECK.dueRow("cook(1, 0 and 1)", row(x.cook(1, 0), x.cook(1, 1)), 0, 0);
        CHECK.due("cooks(2)", x.cooks(2), 2);
        CHECK.dueRow("cook(2, 0 and 1), of one that comes back", row(x.cook(2, 0), x.cook(2, 1)), 0, 0);
        x.run(10);
        CHECK.dueRow("cook(1 and 2, 1), of the same number again", row(x.cook(1, 1), x.cook(2, 1), x.cooks(2), x.cook(1, 1),
                x.cook(2, 1)), 1, 1, 2, 0, 0);
    }

    private static void promise2Busy() {
        CHECK.about("promise 2: BUSY: a cook has a work");
        for (int n : row(1, 2, 12)) {
            IN_BUSY.answered("cooks(" + n + ")", x -> x.cooks(n), BUSY);
        }
        Refusals lastAlone = new Refusals(CHECK, x -> {
            x.cooks(12);
            x.task(9, 0, 0);
            for (int s = 2; s <= 12; s++) {
                x.task(1, 0, 0);
            }
            x.run(9);
        });
        CHECK.dueRow("cook(11 and 12, 2)", row(lastAlone.kitchen().cook(11, 2), lastAlone.kitchen().cook(12, 2)), 0, 1);
        lastAlone.answered("cooks(3), the twelfth has one", x -> x.cooks(3), BUSY);
        PromiseKitchen x = lastAlone.kitchen();
        x.run(10);
        CHECK.due("cooks(3), its work has ended", x.cooks(3), 3);

        Refusals waiting = new Refusals(CHECK, kitchen -> {
            kitchen.retry(1, 4, 1, 1, 30);
            kitchen.nested(2, 0, 0, 1);
            kitchen.run(4);
        });
        CHECK.dueRow("state(1 and 2)", row(waiting.kitchen().state(1), waiting.kitchen().state(2)), 4, 3);
        waiting.answered("cooks(2), the upmost WAITS", kitchen -> kitchen.cooks(2), BUSY);

        x = new PromiseKitchen();
        x.retry(1, 4, 1, 1, 30);
        x.run(2);
        x.task(3, 0, 0);
        CHECK.dueRow("state(1), state(2), cooks(2): works that PAUSE and are READY", row(x.state(1), x.state(2),
                x.cooks(2)), 4, 1, 2);
    }

    private static void promise3() {
        CHECK.about("promise 3: A work of some minutes (1 .. 60). BAD");
        dueBorders("task(n, 0, 7)", 1, 60, (x, n) -> x.task(n, 0, 7));
        for (int minutes : row(1, 60)) {
            PromiseKitchen x = new PromiseKitchen();
            x.task(minutes, 0, 7);
            x.run(minutes);
            CHECK.due("state(1) a minute too early", x.state(1), 2);
            x.run(minutes + 1);
            CHECK.dueRow("state(1), end(1, 0)", row(x.state(1), x.end(1, 0)), 5, minutes);
        }
        CHECK.about("promise 3: of a kind (0 .. 4). BAD");
        dueBorders("task(1, n, 7)", 0, 4, (x, n) -> x.task(1, n, 7));
        dueAnyNumber("task(1, 0, n)", (x, n) -> x.task(1, 0, n));
        CHECK.about("promise 3: FULL");
        dueFull("task()", x -> x.task(1, 0, 0), x -> x.task(1, 5, 0));
    }

    private static void promise4() {
        CHECK.about("promise 4: A stage that ends with the value v at once, at the minute NOW");
        dueAnyNumber("value(n)", (x, n) -> x.value(n));
        for (int v : row(LEAST, -3, -2, -1, 0, MOST)) {
            PromiseKitchen x = IN_BUSY.kitchen();
            int s = x.value(v);
            CHECK.dueRow("state, answer and minute of value(" + v + ")", row(x.state(s), x.answer(s), x.end(s, 0)),
                    5, v, Kitchens.BUSY_NOW);
        }
        CHECK.about("promise 4: FULL");
        PromiseKitchen x = new PromiseKitchen();
        Kitchens.oneTooFewForTwo(x);
        CHECK.due("value(0), the 200th stage", x.value(0), 200);
        IN_FULL.answered("value(0), the 201st stage", kitchen -> kitchen.value(0), FULL);
    }

    private static void promise5() {
        CHECK.about("promise 5: A stage that FAILS at once, with a KIND k (0 .. 15) AT itself. BAD");
        dueBorders("failed(n)", 0, 15, (x, n) -> x.failed(n));
        for (int k : row(0, 15)) {
            PromiseKitchen x = IN_BUSY.kitchen();
            int s = x.failed(k);
            CHECK.dueRow("state, minute and failure of failed(" + k + ")", row(x.state(s), x.end(s, 0), x.failure(s, 0, 0),
                    x.failure(s, 0, 1)), 6, Kitchens.BUSY_NOW, k, s);
        }
        CHECK.about("promise 5: FULL");
        dueFull("failed()", x -> x.failed(15), x -> x.failed(16));
    }

    private static void promise6() {
        CHECK.about("promise 6: then of a stage that is there. BAD");
        dueBorders("then(n, 0, 0)", 1, LAST_STAGE, (x, n) -> x.then(n, 0, 0));
        IN_BUSY.bad("then(0, 0, 0)", x -> x.then(0, 0, 0));
        CHECK.about("promise 6: kind 0 .. 4. BAD");
        dueBorders("then(1, n, 1)", 0, 4, (x, n) -> x.then(1, n, 1));
        dueAnyNumber("then(1, 4, n)", (x, n) -> x.then(1, 4, n));
        CHECK.about("promise 6: it may have ended at once");
        PromiseKitchen x = IN_BUSY.kitchen();
        CHECK.dueRow("of a value, FAILED, CALLED OFF, not ended", row(x.state(x.then(1, 0, 0)), x.state(x.then(4, 0, 0)),
                x.state(x.then(12, 0, 0)), x.state(x.then(13, 0, 0))), 5, 6, 7, 0);
        CHECK.dueRow("minutes of their ends", row(x.end(16, 0), x.end(17, 0), x.end(18, 0), x.end(19, 0)),
                Kitchens.BUSY_NOW, Kitchens.BUSY_NOW, Kitchens.BUSY_NOW, -3);
        CHECK.about("promise 6: FULL");
        dueFull("then()", k -> k.then(1, 0, 0), k -> k.then(201, 0, 0));
    }

    private static void promise7() {
        CHECK.about("promise 7: both of stages that are there. BAD");
        dueBorders("both(n, 13, 0)", 1, LAST_STAGE, (x, n) -> x.both(n, 13, 0));
        dueBorders("both(13, n, 0)", 1, LAST_STAGE, (x, n) -> x.both(13, n, 0));
        CHECK.about("promise 7: kind 0 .. 4. BAD");
        dueBorders("both(1, 2, n)", 0, 4, (x, n) -> x.both(1, 2, n));
        CHECK.about("promise 7: FULL");
        dueFull("both()", x -> x.both(1, 2, 4), x -> x.both(1, 2, 5));
    }

    private static void promise8() {
        CHECK.about("promise 8: first of stages that are there. BAD");
        dueBorders("first(n, 13)", 1, LAST_STAGE, (x, n) -> x.first(n, 13));
        dueBorders("first(13, n)", 1, LAST_STAGE, (x, n) -> x.first(13, n));
        CHECK.about("promise 8: FULL");
        dueFull("first()", x -> x.first(1, 199), x -> x.first(1, 201));
    }

    private static void promise9() {
        CHECK.about("promise 9: count 1 .. 24 stages. BAD");
        int last = Kitchens.WIDE_STAGES;
        dueBorders("all(1, n)", IN_WIDE, last + 1, row(1, 24), (x, n) -> x.all(1, n));
        dueBorders("all(16, n)", IN_WIDE, last + 1, row(1, 24), (x, n) -> x.all(16, n));
        CHECK.about("promise 9: stages from the number from on, all of them there. BAD");
        dueBorders("all(n, 1)", IN_WIDE, last + 1, row(1, last), (x, n) -> x.all(n, 1));
        dueBorders("all(n, 2)", IN_WIDE, last + 1, row(1, last - 1), (x, n) -> x.all(n, 2));
        dueBorders("all(n, 24)", IN_WIDE, last + 1, row(1, last - 23), (x, n) -> x.all(n, 24));
        IN_WIDE.bad("all(MAX - 22, 24), from + count wraps", x -> x.all(MOST - 22, 24));
        IN_WIDE.bad("all(-1, 3), the last one is there", x -> x.all(-1, 3));
        new Refusals(CHECK, x -> x.run(1)).bad("all(1, 1) without stages", x -> x.all(1, 1));
        PromiseKitchen x = IN_WIDE.kitchen();
        CHECK.dueRow("sums of 40, of 39 and 40, of 17 to 40", row(x.answer(x.all(40, 1)), x.answer(x.all(39, 2)),
                x.answer(x.all(17, 24))), 40, 79, 12 * 57);
        CHECK.about("promise 9: FULL");
        dueFull("all()", k -> k.all(16, 24), k -> k.all(16, 25));
    }

    private static void promise10() {
        CHECK.about("promise 10: count 1 .. 24. BAD");
        int last = Kitchens.WIDE_STAGES;
        dueBorders("any(16, n, 1)", IN_WIDE, last + 1, row(1, 24), (x, n) -> x.any(16, n, 1));
        CHECK.about("promise 10: n 1 .. count. BAD");
        dueBorders("any(16, 24, n)", IN_WIDE, last + 1, row(1, 24), (x, n) -> x.any(16, 24, n));
        dueBorders("any(16, 2, n)", IN_WIDE, last + 1, row(1, 2), (x, n) -> x.any(16, 2, n));
        dueBorders("any(16, 1, n)", IN_WIDE, last + 1, row(1, 1), (x, n) -> x.any(16, 1, n));
        IN_WIDE.bad("any(16, 0, 0)", x -> x.any(16, 0, 0));
        IN_WIDE.bad("any(16, 25, 25)", x -> x.any(16, 25, 25));
        IN_WIDE.bad("any(16, -1, -1)", x -> x.any(16, -1, -1));
        CHECK.about("promise 10: stages that are there. BAD");
        dueBorders("any(n, 1, 1)", IN_WIDE, last + 1, row(1, last), (x, n) -> x.any(n, 1, 1));
        dueBorders("any(n, 24, 24)", IN_WIDE, last + 1, row(1, last - 23), (x, n) -> x.any(n, 24, 24));
        IN_WIDE.bad("any(MAX - 22, 24, 1), from + count wraps", x -> x.any(MOST - 22, 24, 1));
        PromiseKitchen x = IN_WIDE.kitchen();
        CHECK.dueRow("the 1st and the 24th of 17 to 40", row(x.answer(x.any(17, 24, 1)), x.answer(x.any(17, 24, 24))),
                17, 40);
        CHECK.about("promise 10: FULL");
        dueFull("any()", k -> k.any(16, 24, 24), k -> k.any(16, 24, 25));
    }

    private static void promise11() {
        CHECK.about("promise 11: onFailure of stages that are there. BAD");
        dueBorders("onFailure(n, 0, 13)", 1, LAST_STAGE, (x, n) -> x.onFailure(n, 0, 13));
        dueBorders("onFailure(13, 0, n)", 1, LAST_STAGE, (x, n) -> x.onFailure(13, 0, n));
        CHECK.about("promise 11: a KIND 0 .. 15. BAD");
        dueBorders("onFailure(4, n, 13)", 0, 15, (x, n) -> x.onFailure(4, n, 13));
        CHECK.about("promise 11: FULL");
        dueFull("onFailure()", x -> x.onFailure(1, 15, 2), x -> x.onFailure(1, 16, 2));
    }

    private static void promise12() {
        CHECK.about("promise 12: always of a stage that is there: the number of the second one. BAD");
        int next = LAST_STAGE + 2;
        dueBorders("always(n, 1, 0, 0)", IN_BUSY, next, row(1, LAST_STAGE), (x, n) -> x.always(n, 1, 0, 0));
        CHECK.about("promise 12: minutes 1 .. 60. BAD");
        dueBorders("always(1, n, 0, 0)", IN_BUSY, next, row(1, 60), (x, n) -> x.always(1, n, 0, 0));
        for (int minutes : row(1, 60)) {
            PromiseKitchen x = new PromiseKitchen();
            x.value(5);
            x.always(1, minutes, 0, 7);
            x.run(minutes);
            CHECK.dueRow("states a minute too early", row(x.state(2), x.state(3)), 2, 0);
            x.run(minutes + 1);
            CHECK.dueRow("answers and ends", row(x.answer(2), x.answer(3), x.end(2, 0), x.end(3, 0)), 7, 5, minutes, minutes);
        }
        CHECK.about("promise 12: kind 0 .. 4. BAD");
        dueBorders("always(1, 1, n, 0)", IN_BUSY, next, row(0, 4), (x, n) -> x.always(1, 1, n, 0));
        for (int a : row(LEAST, MOST)) {
            CHECK.due("always(1, 1, 0, " + a + ")", IN_BUSY.kitchen().always(1, 1, 0, a), next);
        }
    }

    private static void promise12Full() {
        CHECK.about("promise 12: FULL (always() needs two)");
        PromiseKitchen x = new PromiseKitchen();
        Kitchens.busy(x);
        Kitchens.fill(x, 198);
        CHECK.dueRow("always() with 198 stages, stages()", row(x.always(1, 1, 0, 0), x.stages()), 200, 200);
        Refusals oneTooFew = new Refusals(CHECK, Kitchens::oneTooFewForTwo);
        oneTooFew.answered("always() with 199 stages", k -> k.always(1, 1, 0, 0), FULL);
        oneTooFew.answered("always() with a HELD CLOSING WORK, with 199 stages", k -> k.always(13, 1, 0, 0), FULL);
        oneTooFew.bad("always(1, 61, 0, 0) with 199 stages", k -> k.always(1, 61, 0, 0));
        x = oneTooFew.kitchen();
        x.always(1, 1, 0, 0);
        CHECK.due("task() behind that", x.task(1, 0, 0), 200);
        IN_FULL.answered("always() with 200 stages", k -> k.always(1, 1, 0, 0), FULL);
        IN_FULL.bad("always(201, 1, 0, 0) with 200 stages", k -> k.always(201, 1, 0, 0));
    }

    private static void promise13() {
        CHECK.about("promise 13: limit of a stage that is there. BAD");
        dueBorders("limit(n, 9)", 1, LAST_STAGE, (x, n) -> x.limit(n, 9));
        CHECK.about("promise 13: minutes 1 .. 400. BAD");
        dueBorders("limit(13, n)", 1, 400, (x, n) -> x.limit(13, n));
        for (int minutes : row(1, 400)) {
            PromiseKitchen x = new PromiseKitchen();
            x.run(5);
            for (int s = 1; s <= 8; s++) {
                x.task(60, 0, 0);
            }
            // 8 to 2 are worked at till 5 + 420
            x.limit(1, minutes);
            x.run(5 + minutes);
            CHECK.dueRow("states a minute too early", row(x.state(1), x.state(9)), 1, 0);
            x.run(5 + minutes + 1);
            CHECK.dueRow("states, end(9, 0)", row(x.state(1), x.state(9), x.end(9, 0)), 7, 6, 5 + minutes);
        }
        CHECK.about("promise 13: a DUE minute that no run reaches");
        PromiseKitchen x = new PromiseKitchen();
        for (int minute = 400; minute <= 10000; minute += 400) {
            x.run(Math.min(minute, 9999));
        }
        x.task(60, 0, 0);
        x.limit(1, 1);
        x.limit(1, 400);
        x.run(10000);
        CHECK.dueRow("states at 10000", row(x.state(1), x.state(2), x.state(3)), 2, 0, 0);
        CHECK.about("promise 13: FULL");
        dueFull("limit()", k -> k.limit(1, 400), k -> k.limit(1, 401));
    }

    private static void promise14() {
        CHECK.about("promise 14: minutes 1 .. 60. BAD");
        dueBorders("retry(n, 0, 0, 1, 1)", 1, 60, (x, n) -> x.retry(n, 0, 0, 1, 1));
        for (int minutes : row(1, 60)) {
            PromiseKitchen x = new PromiseKitchen();
            x.retry(minutes, 0, 7, 0, 1);
            x.run(minutes);
            CHECK.due("state(1) a minute too early", x.state(1), 2);
            x.run(minutes + 1);
            CHECK.dueRow("answer(1), end(1, 0)", row(x.answer(1), x.end(1, 0)), 7, minutes);
        }
        CHECK.about("promise 14: kind 0 .. 4. BAD");
        dueBorders("retry(1, n, 0, 1, 1)", 0, 4, (x, n) -> x.retry(1, n, 0, 1, 1));
        dueAnyNumber("retry(1, 0, n, 1, 1)", (x, n) -> x.retry(1, 0, n, 1, 1));
        CHECK.about("promise 14: times 0 .. 5. BAD");
        dueBorders("retry(1, 0, 0, n, 1)", 0, 5, (x, n) -> x.retry(1, 0, 0, n, 1));
        CHECK.about("promise 14: pause 1 .. 30. BAD");
        dueBorders("retry(1, 0, 0, 1, n)", 1, 30, (x, n) -> x.retry(1, 0, 0, 1, n));
        for (int pause : row(1, 30)) {
            PromiseKitchen x = new PromiseKitchen();
            x.retry(1, 4, 1, 5, pause);
            x.run(pause + 1);
            CHECK.dueRow("state(1) and pause(1, 1) a minute too early", row(x.state(1), x.pause(1, 1)), 4, pause + 1);
            x.run(pause + 2);
            CHECK.dueRow("state(1), work(1, 1)", row(x.state(1), x.work(1, 1)), 2, 2);
            x.run(pause + 3);
            CHECK.due("pause(1, 2), twice as long", x.pause(1, 2), pause + 2 + 2 * pause);
        }
        CHECK.about("promise 14: FULL");
        dueFull("retry()", x -> x.retry(60, 4, 0, 5, 30), x -> x.retry(60, 4, 0, 6, 30));
    }

    private static void promise15() {
        CHECK.about("promise 15: minutes 2 .. 60. BAD");
        dueBorders("nested(n, 0, 0, 1)", 2, 60, (x, n) -> x.nested(n, 0, 0, 1));
        for (int minutes : row(2, 60)) {
            PromiseKitchen x = new PromiseKitchen();
            x.value(5);
            x.nested(minutes, 0, 7, 1);
            x.run(minutes);
            CHECK.due("state(2) a minute too early", x.state(2), 2);
            x.run(minutes + 1);
            CHECK.dueRow("answer(2), end(2, 0)", row(x.answer(2), x.end(2, 0)), 12, minutes);
        }
        CHECK.about("promise 15: kind 0 .. 4. BAD");
        dueBorders("nested(2, n, 0, 1)", 0, 4, (x, n) -> x.nested(2, n, 0, 1));
        dueAnyNumber("nested(2, 0, n, 1)", (x, n) -> x.nested(2, 0, n, 1));
        CHECK.about("promise 15: its INPUT s, a stage that is there. BAD");
        dueBorders("nested(2, 0, 0, n)", 1, LAST_STAGE, (x, n) -> x.nested(2, 0, 0, n));
        CHECK.about("promise 15: READY at once, though its INPUT has not ended");
        PromiseKitchen x = IN_BUSY.kitchen();
        CHECK.due("state(nested(2, 0, 0, 8))", x.state(x.nested(2, 0, 0, 8)), 1);
        CHECK.about("promise 15: FULL");
        dueFull("nested()", k -> k.nested(60, 4, 0, 1), k -> k.nested(1, 4, 0, 1));
    }
}
