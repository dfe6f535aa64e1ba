/** Promises 1 to 15: a new object, cooks and the makers of stages. */
public final class MakingTest {
    private static final int LEAST = Integer.MIN_VALUE;
    private static final int MOST = Integer.MAX_VALUE;
    private static final Check CHECK = new Check();

    public static void main(String[] args) {
        promise1();
        promise2();
        promise3();
        promise4();
        promise5();
        promise6();
        promise7();
        promise8();
        promise9();
        promise10();
        promise11();
        promise12();
        promise13();
        promise14();
        promise15();
        full();
        CHECK.finish();
    }

    private static int[] row(int... cells) {
        return cells;
    }

    /** A stage (the newest of three) that has been called off, with NOW 1. */
    private static PromiseKitchen withCalledOff() {
        PromiseKitchen x = new PromiseKitchen();
        x.value(10);
        x.failed(4);
        x.task(60, 0, 0);
        x.callOff(3, 0);
        x.run(1);
        CHECK.due("state(3)", x.state(3), 7);
        return x;
    }

    private static void promise1() {
        CHECK.about("promise 1");
        PromiseKitchen x = new PromiseKitchen();
        CHECK.due("now()", x.now(), 0);
        CHECK.due("stages()", x.stages(), 0);
        CHECK.due("state(1)", x.state(1), -1);
        for (int what = 0; what <= 3; what++) {
            CHECK.due("cook(1, " + what + ")", x.cook(1, what), 0);
            CHECK.due("cook(2, " + what + ")", x.cook(2, what), -1);
        }
        CHECK.due("log(0, 0)", x.log(0, 0), -1);
        CHECK.due("clearPlan()", x.clearPlan(), 0);
    }

    private static void promise2() {
        CHECK.about("promise 2");
        PromiseKitchen x = new PromiseKitchen();
        CHECK.dueRow("cooks(0, 13, -1, 12)", row(x.cooks(0), x.cooks(13), x.cooks(LEAST), x.cooks(12)), -1, -1, -1, 12);
        CHECK.dueRow("cook(12, 0), cook(13, 0)", row(x.cook(12, 0), x.cook(13, 0)), 0, -1);
        x.run(3);
        CHECK.dueRow("cook(1 and 12, 1)", row(x.cook(1, 1), x.cook(12, 1)), 3, 3);
        CHECK.due("cooks(12)", x.cooks(12), 12);
        CHECK.dueRow("cook(1 and 12, 1)", row(x.cook(1, 1), x.cook(12, 1)), 0, 0);
        CHECK.due("cooks(2)", x.cooks(2), 2);
        CHECK.due("cook(3, 0)", x.cook(3, 0), -1);

        x = new PromiseKitchen();
        x.task(9, 0, 0);
        x.task(1, 0, 0);
        CHECK.due("cooks(2), works only READY", x.cooks(2), 2);
        x.run(2);
        CHECK.dueRow("cook(1 and 2, 2)", row(x.cook(1, 2), x.cook(2, 2)), 0, 1);
        CHECK.dueRow("cooks(1), cooks(13)", row(x.cooks(1), x.cooks(13)), -3, -1);
        CHECK.due("cook(2, 3) as before", x.cook(2, 3), 1);
        x.run(10);
        CHECK.due("cooks(1)", x.cooks(1), 1);

        x = new PromiseKitchen();
        x.task(2, 0, 0);
        x.nested(2, 0, 0, 1);
        x.run(2);
        CHECK.due("cooks(1), its only cook has a work", x.cooks(1), -3);
        CHECK.due("cook(1, 0)", x.cook(1, 0), 1);
        x.run(9);
        CHECK.due("cooks(1)", x.cooks(1), 1);
        CHECK.dueRow("cook(1, 0 and 1)", row(x.cook(1, 0), x.cook(1, 1)), 0, 0);
    }

    private static void promise3() {
        CHECK.about("promise 3");
        PromiseKitchen x = new PromiseKitchen();
        CHECK.dueRow("task() of wrong numbers", row(x.task(0, 0, 0), x.task(61, 0, 0), x.task(1, -1, 0),
                x.task(1, 5, 0), x.task(LEAST, 0, 0), x.task(1, MOST, 0)), -1, -1, -1, -1, -1, -1);
        CHECK.due("stages()", x.stages(), 0);
        CHECK.dueRow("task() of each kind", row(x.task(2, 0, 7), x.task(2, 1, 7), x.task(2, 2, 7), x.task(2, 3, 7),
                x.task(2, 4, 0x1F)), 1, 2, 3, 4, 5);
        x.run(11);
        CHECK.dueRow("answer(1 to 4)", row(x.answer(1), x.answer(2), x.answer(3), x.answer(4)), 7, 8, 7 ^ 4, 7 + 2);
        CHECK.dueFailures(x, 5, row(15, 5, -4, 0));
        CHECK.dueEnd(x, 5, 2, 1);
        CHECK.dueEnd(x, 1, 10, 5);

        x = new PromiseKitchen();
        CHECK.dueRow("task(1 and 60 minutes)", row(x.task(60, 1, MOST), x.task(1, 4, -1)), 1, 2);
        x.run(62);
        CHECK.due("answer(1) wraps", x.answer(1), LEAST);
        CHECK.dueEnd(x, 1, 61, 2);
        CHECK.dueFailures(x, 2, row(15, 2, -4, 0));
    }

    private static void promise4() {
        CHECK.about("promise 4");
        PromiseKitchen x = new PromiseKitchen();
        CHECK.due("value(5)", x.value(5), 1);
        CHECK.dueRow("state(1), answer(1)", row(x.state(1), x.answer(1)), 5, 5);
        CHECK.dueEnd(x, 1, 0, 1);
        x.run(3);
        CHECK.due("value(MIN)", x.value(LEAST), 2);
        CHECK.due("answer(2)", x.answer(2), LEAST);
        CHECK.dueEnd(x, 2, 3, 2);
        CHECK.dueRow("log(1, 0 to 2)", row(x.log(1, 0), x.log(1, 1), x.log(1, 2)), 3, 2, 2);
    }

    private static void promise5() {
        CHECK.about("promise 5");
        PromiseKitchen x = new PromiseKitchen();
        CHECK.dueRow("failed(-1 and 16)", row(x.failed(-1), x.failed(16)), -1, -1);
        CHECK.dueRow("failed(0 and 15)", row(x.failed(0), x.failed(15)), 1, 2);
        CHECK.dueRow("states", Check.states(x, 1, 2), 6, 6);
        CHECK.dueFailures(x, 1, row(0, 1, -4, 0));
        CHECK.dueFailures(x, 2, row(15, 2, -4, 0));
        CHECK.dueEnd(x, 2, 0, 2);
        CHECK.dueRow("log(1, 0 to 2)", row(x.log(1, 0), x.log(1, 1), x.log(1, 2)), 0, 2, 3);
    }

    private static void promise6() {
        CHECK.about("promise 6");
        PromiseKitchen x = withCalledOff();
        CHECK.dueRow("then() of wrong numbers", row(x.then(0, 0, 0), x.then(4, 0, 0), x.then(1, -1, 0),
                x.then(1, 5, 0)), -1, -1, -1, -1);
        CHECK.dueRow("then() of each kind", row(x.then(1, 0, MOST), x.then(1, 1, 11), x.then(1, 2, -3),
                x.then(1, 3, 3), x.then(1, 4, 3)), 4, 5, 6, 7, 8);
        CHECK.dueRow("answer(4 to 8)", row(x.answer(4), x.answer(5), x.answer(6), x.answer(7), x.answer(8)),
                MOST + 10, -1, -30, 9, 3);
        x.then(2, 4, 0);
        x.then(3, 4, 0);
        x.then(1, 4, 0);
        CHECK.dueRow("states", Check.states(x, 9, 10, 11), 6, 7, 6);
        CHECK.dueFailures(x, 9, row(4, 2, -4, 0));
        CHECK.dueFailures(x, 11, row(6, 11, -4, 0));

        x = new PromiseKitchen();
        x.value(-7);
        x.value(LEAST);
        x.value(7);
        int[][] quotients = {{1, 2, -4}, {3, -2, -4}, {1, -2, 3}, {3, 7, 1}, {2, -1, LEAST}, {2, 1, LEAST},
            {1, 7, -1}, {3, 8, 0}, {1, 8, -1}, {1, LEAST, 0}, {3, LEAST, -1}};
        for (int[] q : quotients) {
            CHECK.due("then(" + q[0] + ", 4, " + q[1] + ")", x.answer(x.then(q[0], 4, q[1])), q[2]);
        }

        x = new PromiseKitchen();
        x.task(2, 0, 6);
        CHECK.due("then(1, 2, 7)", x.then(1, 2, 7), 2);
        x.run(2);
        CHECK.due("state(2)", x.state(2), 0);
        x.run(3);
        CHECK.due("answer(2)", x.answer(2), 42);
        CHECK.dueEnd(x, 2, 2, 2);
    }

    private static void promise7() {
        CHECK.about("promise 7");
        PromiseKitchen x = withCalledOff();
        CHECK.dueRow("both() of wrong numbers", row(x.both(0, 1, 0), x.both(1, 4, 0), x.both(1, 1, -1),
                x.both(1, 1, 5)), -1, -1, -1, -1);
        x.value(-4);
        int[] due = {6, 14, 10, -4, -40};
        for (int kind = 0; kind <= 4; kind++) {
            CHECK.due("both(1, 4, " + kind + ")", x.answer(x.both(1, 4, kind)), due[kind]);
        }
        CHECK.due("both(4, 1, 1)", x.answer(x.both(4, 1, 1)), -14);
        CHECK.due("both(1, 1, 0)", x.answer(x.both(1, 1, 0)), 20);
        CHECK.dueRow("states", Check.states(x, x.both(3, 2, 0), x.both(1, 3, 0), x.both(3, 3, 0)), 6, 7, 7);

        x = new PromiseKitchen();
        x.cooks(2);
        x.task(4, 4, 7);
        x.task(3, 4, 8);
        x.both(1, 2, 0);
        x.run(4);
        CHECK.dueFailures(x, 3, row(8, 2, -4, 0));
        CHECK.dueEnd(x, 3, 3, 2);
        x.run(5);
        x.both(1, 2, 0);
        CHECK.dueFailures(x, 4, row(8, 2, -4, 0));

        x = new PromiseKitchen();
        x.task(2, 0, 1);
        x.both(1, 1, 4);
        CHECK.dueRow("state(2), served(1)", row(x.state(2), x.served(1)), 0, 1);
        x.run(3);
        CHECK.due("answer(2)", x.answer(2), 1);
    }

    private static void promise8() {
        CHECK.about("promise 8");
        PromiseKitchen x = new PromiseKitchen();
        x.cooks(2);
        x.task(5, 0, 50);
        x.task(3, 0, 30);
        CHECK.dueRow("first() of wrong numbers", row(x.first(0, 1), x.first(1, 3), x.first(-1, -1)), -1, -1, -1);
        CHECK.due("first(1, 2)", x.first(1, 2), 3);
        x.run(4);
        CHECK.due("answer(3)", x.answer(3), 30);
        CHECK.dueEnd(x, 3, 3, 2);
        CHECK.due("state(1): it goes on", x.state(1), 2);
        x.run(6);
        CHECK.due("first(1, 2)", x.answer(x.first(1, 2)), 30);
        CHECK.due("first(1, 1)", x.answer(x.first(1, 1)), 50);

        x = withCalledOff();
        CHECK.dueFailures(x, x.first(3, 2), row(4, 2, -4, 0));
        x.task(9, 0, 0);
        CHECK.due("first(5, 3)", x.state(x.first(5, 3)), 7);
        CHECK.due("state(5): it served that alone", x.state(5), 7);
    }

    private static void promise9() {
        CHECK.about("promise 9");
        PromiseKitchen x = new PromiseKitchen();
        for (int i = 1; i <= 25; i++) {
            x.value(i);
        }
        CHECK.dueRow("all() of wrong numbers", row(x.all(1, 0), x.all(2, 0), x.all(1, 25), x.all(0, 3), x.all(3, 24),
                x.all(26, 1), x.all(MOST, 24), x.all(MOST, 1), x.all(1, LEAST)), -1, -1, -1, -1, -1, -1, -1, -1, -1);
        CHECK.due("all(2, 24)", x.answer(x.all(2, 24)), 324);
        CHECK.due("all(25, 1)", x.answer(x.all(25, 1)), 25);
        x.value(MOST);
        x.value(MOST);
        CHECK.due("all(28, 2)", x.answer(x.all(28, 2)), -2);

        x = new PromiseKitchen();
        x.cooks(3);
        x.task(4, 4, 7);
        x.task(3, 4, 8);
        x.task(2, 0, 1);
        x.all(1, 3);
        x.all(3, 1);
        x.run(3);
        CHECK.dueRow("states", Check.states(x, 4, 5), 0, 5);
        x.run(5);
        CHECK.dueFailures(x, 4, row(8, 2, -4, 0));
        CHECK.dueFailures(x, x.all(1, 3), row(8, 2, -4, 0));
        CHECK.dueEnd(x, 4, 3, 4);
    }

    private static void promise10() {
        CHECK.about("promise 10");
        PromiseKitchen x = new PromiseKitchen();
        x.cooks(3);
        x.task(5, 0, 10);
        x.task(3, 0, 20);
        x.task(4, 0, 30);
        CHECK.dueRow("any() of wrong numbers", row(x.any(1, 0, 1), x.any(1, 25, 1), x.any(1, 3, 0), x.any(1, 3, 4),
                x.any(0, 2, 1), x.any(2, 3, 1), x.any(MOST, 24, 1)), -1, -1, -1, -1, -1, -1, -1);
        x.any(1, 3, 1);
        x.any(1, 3, 2);
        x.any(1, 3, 3);
        x.run(6);
        CHECK.dueRow("answer(4 to 6)", row(x.answer(4), x.answer(5), x.answer(6)), 20, 30, 10);
        CHECK.dueEnd(x, 4, 3, 2);
        CHECK.due("any(1, 3, 2) of ended ones", x.answer(x.any(1, 3, 2)), 30);

        x = new PromiseKitchen();
        x.cooks(4);
        x.task(5, 4, 3);
        x.task(3, 4, 7);
        x.task(4, 4, 8);
        x.task(9, 0, 1);
        x.any(1, 4, 2);
        x.run(5);
        CHECK.due("state(5): two may fail", x.state(5), 0);
        x.run(6);
        CHECK.dueFailures(x, 5, row(2, 5, -4, 0), row(3, 1, 0, 1), row(7, 2, 0, 2), row(8, 3, 0, 2));
        CHECK.dueEnd(x, 5, 5, 4);
        CHECK.due("state(4): it goes on", x.state(4), 2);

        x = new PromiseKitchen();
        x.task(5, 4, 3);
        x.task(5, 0, 3);
        x.any(1, 2, 1);
        x.any(1, 2, 2);
        x.callOff(1, 0);
        x.callOff(2, 1);
        x.run(1);
        CHECK.dueRow("states", Check.states(x, 1, 3, 4), 7, 0, 7);
        x.run(2);
        CHECK.due("state(3)", x.state(3), 7);
        x.failed(9);
        CHECK.due("any(4, 2, 1): one of them FAILED", x.state(x.any(4, 2, 1)), 6);
        CHECK.dueFailures(x, 6, row(2, 6, -4, 0), row(9, 5, 0, 1));
    }

    private static void promise11() {
        CHECK.about("promise 11");
        PromiseKitchen x = withCalledOff();
        CHECK.dueRow("onFailure() of wrong numbers", row(x.onFailure(0, 0, 1), x.onFailure(1, 0, 4),
                x.onFailure(1, -1, 1), x.onFailure(1, 16, 1)), -1, -1, -1, -1);
        CHECK.due("onFailure(1, 0, 2): a value", x.answer(x.onFailure(1, 0, 2)), 10);
        CHECK.due("onFailure(3, 0, 1): called off", x.state(x.onFailure(3, 0, 1)), 7);
        boolean[] over4 = {true, true, false, false, true};
        for (int k = 0; k <= 15; k++) {
            int s = x.onFailure(2, k, 1);
            CHECK.due("onFailure(2, " + k + ", 1)", x.state(s), k < 5 && over4[k] ? 5 : 6);
        }
        CHECK.dueFailures(x, x.onFailure(2, 2, 1), row(4, 2, -4, 0));
        CHECK.due("onFailure(2, 0, 2)", x.state(x.onFailure(2, 0, 2)), 6);
        CHECK.due("onFailure(2, 0, 3)", x.state(x.onFailure(2, 0, 3)), 7);

        x = new PromiseKitchen();
        x.failed(15);
        x.task(3, 0, 8);
        CHECK.dueRow("onFailure() that waits", Check.states(x, x.onFailure(1, 7, 2), x.onFailure(1, 14, 2)), 0, 6);
        x.run(4);
        CHECK.due("answer(3)", x.answer(3), 8);
        CHECK.dueEnd(x, 3, 3, 4);

        x = new PromiseKitchen();
        x.value(8);
        x.task(3, 0, 4);
        CHECK.due("onFailure(2, 0, 1)", x.state(x.onFailure(2, 0, 1)), 0);
        x.run(4);
        CHECK.due("answer(3)", x.answer(3), 4);
    }

    private static void promise12() {
        CHECK.about("promise 12");
        PromiseKitchen x = new PromiseKitchen();
        x.task(3, 0, 5);
        CHECK.dueRow("always() of wrong numbers", row(x.always(0, 1, 0, 0), x.always(2, 1, 0, 0), x.always(1, 0, 0, 0),
                x.always(1, 61, 0, 0), x.always(1, 1, -1, 0), x.always(1, 1, 5, 0)), -1, -1, -1, -1, -1, -1);
        CHECK.due("always(1, 2, 0, 9)", x.always(1, 2, 0, 9), 3);
        CHECK.dueRow("served(1 to 3)", row(x.served(1), x.served(2), x.served(3)), 2, 1, 0);
        x.run(3);
        CHECK.dueRow("states", Check.states(x, 1, 2, 3), 2, 0, 0);
        x.run(4);
        CHECK.dueRow("states: taken when it became READY", Check.states(x, 1, 2, 3), 5, 2, 0);
        x.run(6);
        CHECK.dueRow("answers", row(x.answer(2), x.answer(3)), 9, 5);
        CHECK.dueEnd(x, 3, 5, 3);

        // each end of s with each end of the closing work: s 1 value, 2 failed, 3 called off
        int[][] due = {{1, 0, 5}, {1, 4, 6}, {2, 0, 6}, {2, 4, 6}, {3, 0, 7}, {3, 4, 7}};
        for (int[] d : due) {
            x = withCalledOff();
            int s = x.always(d[0], 1, d[1], 9);
            CHECK.due("state of a closing work whose INPUT has ended", x.state(s - 1), 1);
            x.run(3);
            CHECK.due("always(" + d[0] + ", 1, " + d[1] + ", 9)", x.state(s), d[2]);
            if (d[0] == 1 && d[1] == 4) {
                CHECK.dueFailures(x, s, row(9, 4, -4, 0));
            } else if (d[0] == 2 && d[1] == 0) {
                CHECK.dueFailures(x, s, row(4, 2, -4, 0));
            } else if (d[0] == 2) {
                CHECK.dueFailures(x, s, row(4, 5, -4, 0), row(4, 2, 0, 1), row(9, 4, 0, 2));
            }
        }

        for (int s = 1; s <= 2; s++) {
            x = withCalledOff();
            x.always(s, 1, 4, 9);
            x.callOff(4, 1);
            x.run(2);
            CHECK.dueRow("states, closing work called off", Check.states(x, 4, 5), 7, s == 1 ? 5 : 6);
        }

        x = new PromiseKitchen();
        x.task(3, 0, 5);
        x.always(1, 2, 0, 9);
        x.callOff(3, 1);
        x.run(2);
        CHECK.dueRow("states, the stage called off", Check.states(x, 1, 2, 3), 7, 7, 7);
        CHECK.dueRow("places", row(x.end(3, 1), x.end(2, 1), x.end(1, 1)), 1, 2, 3);
    }

    private static void promise13() {
        CHECK.about("promise 13");
        PromiseKitchen x = withCalledOff();
        CHECK.dueRow("limit() of wrong numbers", row(x.limit(0, 1), x.limit(4, 1), x.limit(1, 0), x.limit(1, 401),
                x.limit(1, LEAST)), -1, -1, -1, -1, -1);
        CHECK.due("limit(1, 400)", x.answer(x.limit(1, 400)), 10);
        CHECK.dueFailures(x, x.limit(2, 1), row(4, 2, -4, 0));
        CHECK.due("limit(3, 1)", x.state(x.limit(3, 1)), 7);

        x = new PromiseKitchen();
        x.run(7);
        x.task(4, 0, 5);
        x.limit(1, 4);
        x.limit(1, 3);
        x.then(1, 0, 0);
        x.run(10);
        CHECK.dueRow("states", Check.states(x, 2, 3), 0, 0);
        x.run(11);
        CHECK.dueRow("states: another one has the INPUT", Check.states(x, 1, 2, 3), 2, 0, 6);
        CHECK.dueFailures(x, 3, row(5, 3, -4, 0));
        CHECK.dueEnd(x, 3, 10, 1);
        x.run(12);
        CHECK.due("answer(2): the work is over at the DUE minute", x.answer(2), 5);

        x = new PromiseKitchen();
        x.task(60, 0, 5);
        x.then(1, 0, 1);
        x.limit(2, 2);
        x.limit(3, 2);
        x.run(3);
        CHECK.dueRow("states", Check.states(x, 1, 2, 3, 4), 7, 7, 6, 6);
        CHECK.dueRow("places", row(x.end(3, 1), x.end(4, 1), x.end(2, 1), x.end(1, 1)), 1, 2, 3, 4);
        CHECK.dueFailures(x, 4, row(5, 3, -4, 0));
        CHECK.dueRow("work(1, 2), cook(1, 2)", row(x.work(1, 2), x.cook(1, 2)), 1, 0);

        x = new PromiseKitchen();
        x.retry(60, 4, 1, 5, 30);
        x.limit(1, 400);
        x.run(400);
        CHECK.due("state(2)", x.state(2), 0);
        x.run(401);
        CHECK.dueRow("states", Check.states(x, 1, 2), 7, 6);
        CHECK.dueEnd(x, 2, 400, 1);
    }

    private static void promise14() {
        CHECK.about("promise 14");
        PromiseKitchen x = new PromiseKitchen();
        CHECK.dueRow("retry() of wrong numbers", row(x.retry(0, 0, 0, 0, 1), x.retry(61, 0, 0, 0, 1),
                x.retry(1, -1, 0, 0, 1), x.retry(1, 5, 0, 0, 1), x.retry(1, 0, 0, -1, 1), x.retry(1, 0, 0, 6, 1),
                x.retry(1, 0, 0, 0, 0), x.retry(1, 0, 0, 0, 31)), -1, -1, -1, -1, -1, -1, -1, -1);
        CHECK.due("retry(2, 4, 10, 2, 3)", x.retry(2, 4, 10, 2, 3), 1);
        x.run(3);
        CHECK.dueRow("state(1), cook(1, 2)", row(x.state(1), x.cook(1, 2)), 4, 0);
        x.run(60);
        // workings 0-2, 5-7, 13-15; pauses till 5 and 13
        CHECK.dueRow("pauses", row(x.pause(1, 1), x.pause(1, 2), x.pause(1, 3)), 5, 13, -1);
        CHECK.dueEnd(x, 1, 15, 1);
        CHECK.dueFailures(x, 1, row(10, 1, -4, 0), row(10, 1, 0, 2), row(10, 1, 0, 2));
        CHECK.dueRow("log(1, 0 to 2)", row(x.log(1, 0), x.log(1, 1), x.log(1, 2)), 2, 1, 7);

        x = new PromiseKitchen();
        x.retry(1, 3, 100, 5, 30);
        x.plan(1, 1, 1);
        x.plan(1, 2, 15);
        x.run(200);
        // workings 0-1, 31-32, 92-93
        CHECK.due("answer(1)", x.answer(1), 392);
        CHECK.dueEnd(x, 1, 93, 1);

        x = new PromiseKitchen();
        x.retry(1, 0, 0, 5, 1);
        x.plan(1, 1, 3);
        x.plan(1, 2, 2);
        x.run(60);
        CHECK.dueFailures(x, 1, row(2, 1, -4, 0), row(3, 1, 0, 2));
        CHECK.dueRow("work(1, 1 and 3)", row(x.work(1, 1), x.work(1, 3)), 2, 1);

        for (int kind = 0; kind <= 15; kind++) {
            boolean passing = kind == 1 || kind == 3 || kind == 4 || kind >= 7 && kind <= 10 || kind == 15;
            x = new PromiseKitchen();
            x.retry(1, 4, kind, 1, 1);
            x.retry(1, 4, kind, 0, 1);
            x.run(9);
            CHECK.due("work(1, 1) with failures of kind " + kind, x.work(1, 1), passing ? 2 : 1);
            CHECK.due("work(2, 1) with times 0", x.work(2, 1), 1);
        }

        x = new PromiseKitchen();
        x.retry(1, 4, 1, 5, 30);
        x.run(400);
        x.run(800);
        x.run(1000);
        CHECK.due("pause(1, 5)", x.pause(1, 5), 5 + 30 * 31);
        CHECK.dueEnd(x, 1, 6 + 30 * 31, 1);
    }

    private static void promise15() {
        CHECK.about("promise 15");
        PromiseKitchen x = withCalledOff();
        CHECK.dueRow("nested() of wrong numbers", row(x.nested(1, 0, 0, 1), x.nested(61, 0, 0, 1),
                x.nested(2, -1, 0, 1), x.nested(2, 5, 0, 1), x.nested(2, 0, 0, 0), x.nested(2, 0, 0, 4)),
                -1, -1, -1, -1, -1, -1);
        CHECK.due("nested(5, 2, 7, 1)", x.nested(5, 2, 7, 1), 4);
        x.run(6);
        CHECK.due("state(4)", x.state(4), 2);
        x.run(7);
        CHECK.due("answer(4)", x.answer(4), (7 ^ 1) + 10);
        x.nested(5, 0, 0, 2);
        x.nested(5, 0, 0, 3);
        x.run(12);
        // 6 is taken at 7 and over with its first part at 9, 5 taken then and over with it at 11
        CHECK.dueEnd(x, 6, 9, 5);
        CHECK.dueEnd(x, 5, 11, 6);
        CHECK.dueRow("states", Check.states(x, 5, 6), 6, 7);
        CHECK.due("work(6, 2)", x.work(6, 2), 1);
        CHECK.dueFailures(x, 5, row(12, 5, -4, 0), row(4, 2, 0, 1));

        x = new PromiseKitchen();
        x.task(2, 0, MOST);
        x.nested(3, 1, 0, 1);
        x.run(2);
        // first part 0-1, waits and helps from 1 to 3, second part 3-5
        CHECK.dueRow("states", Check.states(x, 1, 2), 2, 3);
        CHECK.dueRow("cook(1, 0, 2, 3)", row(x.cook(1, 0), x.cook(1, 2), x.cook(1, 3)), 1, 2, 1);
        x.run(4);
        CHECK.dueRow("state(2), cook(1, 2)", row(x.state(2), x.cook(1, 2)), 2, 1);
        x.run(6);
        CHECK.due("answer(2) wraps", x.answer(2), LEAST);
        CHECK.dueEnd(x, 2, 5, 2);

        x = new PromiseKitchen();
        x.cooks(2);
        x.task(6, 4, 9);
        x.nested(2, 0, 0, 1);
        x.plan(2, 1, 1);
        x.run(7);
        // the other cook's work fails at 6, the waiting one is RESUMED then
        CHECK.dueFailures(x, 2, row(12, 2, -4, 0), row(9, 1, 0, 1));
        CHECK.dueEnd(x, 2, 6, 2);

        x = new PromiseKitchen();
        x.run(1);
        x.value(-1000);
        for (int kind = 0; kind <= 3; kind++) {
            x.nested(2, kind, 10, 1);
        }
        x.run(10);
        // 5 begins at 1, 4 at 3, 3 at 5, 2 at 7
        CHECK.dueRow("answer(2 to 5)", row(x.answer(2), x.answer(3), x.answer(4), x.answer(5)), -990, -989, -991, -989);

        x = new PromiseKitchen();
        x.value(1);
        x.nested(2, 0, 0, 1);
        x.nested(2, 4, 3, 1);
        x.plan(2, 1, 1);
        x.run(5);
        CHECK.dueFailures(x, 3, row(3, 3, -4, 0));
        CHECK.dueFailures(x, 2, row(1, 2, -4, 0));
    }

    /** FULL of every maker; what is BAD, too, is BAD. */
    private static void full() {
        CHECK.about("FULL");
        PromiseKitchen x = new PromiseKitchen();
        for (int i = 1; i <= 199; i++) {
            CHECK.due("value(0)", x.value(0), i);
        }
        CHECK.due("always(), one place too few", x.always(1, 1, 0, 0), -2);
        CHECK.due("stages()", x.stages(), 199);
        CHECK.due("task(), the last place", x.task(1, 0, 0), 200);
        CHECK.dueRow("all makers", row(x.task(1, 0, 0), x.value(0), x.failed(0), x.then(1, 0, 0), x.both(1, 1, 0),
                x.first(1, 1), x.all(1, 1), x.any(1, 1, 1), x.onFailure(1, 0, 1), x.always(1, 1, 0, 0), x.limit(1, 1),
                x.retry(1, 0, 0, 0, 1), x.nested(2, 0, 0, 1)), -2, -2, -2, -2, -2, -2, -2, -2, -2, -2, -2, -2, -2);
        CHECK.dueRow("all makers, of wrong numbers", row(x.task(0, 0, 0), x.failed(16), x.then(201, 0, 0),
                x.both(1, 201, 0), x.first(1, 0), x.all(1, 0), x.any(1, 1, 2), x.onFailure(1, 16, 1),
                x.always(1, 0, 0, 0), x.limit(1, 0), x.retry(1, 0, 0, 0, 0), x.nested(1, 0, 0, 1)),
                -1, -1, -1, -1, -1, -1, -1, -1, -1, -1, -1, -1);
        CHECK.dueRow("stages(), state(201)", row(x.stages(), x.state(201)), 200, -1);
        x.run(3);
        CHECK.dueRow("state(200), log(199, 1), log(201, 0)", row(x.state(200), x.log(199, 1), x.log(201, 0)), 5, 200, -1);
        CHECK.due("served(1)", x.served(1), 0);

        x = new PromiseKitchen();
        for (int i = 1; i <= 198; i++) {
            x.value(i);
        }
        CHECK.due("always(), just room enough", x.always(198, 1, 0, 0), 200);
        x.run(2);
        CHECK.due("answer(200)", x.answer(200), 198);
    }
}
