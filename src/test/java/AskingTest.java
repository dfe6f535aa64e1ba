/** Promises 16 to 30: the plan, calling off, running, and the questions. */
public final class AskingTest {
    private static final int LEAST = Integer.MIN_VALUE;
    private static final int MOST = Integer.MAX_VALUE;
    private static final Check CHECK = new Check();

    public static void main(String[] args) {
        promise16();
        promise17();
        promise18();
        promises19And20();
        promise21();
        promise22();
        promise23();
        promise24();
        promise25();
        promise26();
        promise27();
        promise28();
        promise29();
        promise30();
        exampleOfReadme();
        CHECK.finish();
    }

    private static int[] row(int... cells) {
        return cells;
    }

    private static void promise16() {
        CHECK.about("promise 16");
        PromiseKitchen x = new PromiseKitchen();
        x.task(1, 0, 7);
        x.value(1);
        CHECK.dueRow("plan() of wrong numbers", row(x.plan(0, 1, 1), x.plan(3, 1, 1), x.plan(2, 1, 1), x.plan(1, 0, 1),
                x.plan(1, 7, 1), x.plan(1, 1, -1), x.plan(1, 1, 16)), -1, -1, -1, -1, -1, -1, -1);
        CHECK.dueRow("plan()", row(x.plan(1, 1, 0), x.plan(1, 6, 15), x.plan(1, 1, 11)), 1, 2, 2);
        x.run(3);
        CHECK.dueRow("failure(1, 0, 0 and 1)", row(x.failure(1, 0, 0), x.failure(1, 0, 1)), 11, 1);
        CHECK.due("plan(1, 1, 3) of an ended work", x.plan(1, 1, 3), 2);
        CHECK.due("failure(1, 0, 0) as before", x.failure(1, 0, 0), 11);

        x = new PromiseKitchen();
        x.task(3, 0, 7);
        x.nested(2, 0, 0, 1);
        x.value(0);
        x.always(3, 1, 0, 0);
        x.retry(1, 0, 0, 0, 1);
        CHECK.dueRow("plan() of each form of work", row(x.plan(1, 1, 0), x.plan(2, 1, 0), x.plan(4, 1, 0),
                x.plan(6, 1, 0), x.plan(5, 1, 0)), 1, 2, 3, 4, -1);
        CHECK.due("plan(1, 2, 5): a WORKING that never begins", x.plan(1, 2, 5), 5);
        x.run(3);
        CHECK.due("plan(1, 1, 9), looked at when it is done", x.plan(1, 1, 9), 5);
        x.run(12);
        CHECK.due("failure(1, 0, 0)", x.failure(1, 0, 0), 9);
        CHECK.dueRow("state(4), state(5), state(6)", row(x.state(4), x.state(5), x.state(6)), 6, 6, 6);

        x = new PromiseKitchen();
        for (int s = 1; s <= 11; s++) {
            x.retry(1, 0, 0, 5, 1);
        }
        for (int i = 0; i < 64; i++) {
            CHECK.due("plan " + i, x.plan(1 + i / 6, 1 + i % 6, 3), i + 1);
        }
        CHECK.dueRow("plan() with 64 of them", row(x.plan(11, 5, 3), x.plan(11, 4, 2), x.plan(11, 6, 1),
                x.plan(11, 6, 16)), -2, 64, -2, -1);
        x.run(300);
        CHECK.due("failure(11, 0, 0): the newer plan", x.failure(11, 0, 0), 2);
        CHECK.dueRow("work(1, 1), work(11, 1)", row(x.work(1, 1), x.work(11, 1)), 6, 4);
    }

    private static void promise17() {
        CHECK.about("promise 17");
        PromiseKitchen x = new PromiseKitchen();
        x.task(2, 0, 7);
        x.plan(1, 1, 0);
        x.plan(1, 2, 0);
        CHECK.dueRow("clearPlan() twice", row(x.clearPlan(), x.clearPlan()), 2, 0);
        x.run(3);
        CHECK.due("answer(1)", x.answer(1), 7);
        CHECK.due("plan(1, 5, 5)", x.plan(1, 5, 5), 1);
    }

    private static void promise18() {
        CHECK.about("promise 18");
        PromiseKitchen x = new PromiseKitchen();
        x.task(5, 0, 7);
        x.value(0);
        x.then(1, 0, 0);
        CHECK.dueRow("callOff() of wrong numbers", row(x.callOff(0, 3), x.callOff(4, 3), x.callOff(2, 3),
                x.callOff(1, -1), x.callOff(1, 10001)), -1, -1, -1, -1, -1);
        CHECK.dueRow("callOff()", row(x.callOff(1, 10000), x.callOff(1, 0), x.callOff(1, 3)), 1, 1, 1);
        x.run(3);
        CHECK.dueRow("state(1), callOff(1, 2)", row(x.state(1), x.callOff(1, 2)), 2, -1);
        x.run(4);
        CHECK.dueRow("state(1), state(3), end(1, 0), end(3, 0)", row(x.state(1), x.state(3), x.end(1, 0), x.end(3, 0)),
                7, 7, 3, 3);
        CHECK.due("callOff(1, 9)", x.callOff(1, 9), -1);

        x = new PromiseKitchen();
        x.task(5, 0, 7);
        x.callOff(1, 5);
        x.run(6);
        CHECK.due("state(1), called off when its time is over", x.state(1), 7);

        x = new PromiseKitchen();
        x.task(5, 0, 7);
        x.callOff(1, 3);
        x.callOff(1, 6);
        x.run(7);
        CHECK.due("answer(1): the earlier minute went", x.answer(1), 7);

        x = new PromiseKitchen();
        x.task(5, 0, 7);
        x.both(1, 1, 0);
        x.then(1, 0, 0);
        x.callOff(2, 1);
        x.run(2);
        CHECK.dueRow("state(1 to 3): the INPUT serves another", row(x.state(1), x.state(2), x.state(3)), 2, 7, 0);
        x.callOff(3, 3);
        x.run(4);
        CHECK.dueRow("state(1), work(1, 2)", row(x.state(1), x.work(1, 2)), 7, 1);
    }

    private static void promises19And20() {
        CHECK.about("promises 19 and 20");
        PromiseKitchen x = new PromiseKitchen();
        CHECK.dueRow("run() of wrong numbers", row(x.run(-1), x.run(401), x.run(MOST), x.run(LEAST)), -1, -1, -1, -1);
        CHECK.dueRow("run(0), now()", row(x.run(0), x.now()), 0, 0);
        CHECK.due("cook(1, 1)", x.cook(1, 1), 0);
        CHECK.dueRow("run(400), now()", row(x.run(400), x.now()), 400, 400);
        CHECK.dueRow("run(399), run(801), now()", row(x.run(399), x.run(801), x.now()), -1, -1, 400);
        CHECK.dueRow("run(400), cook(1, 1)", row(x.run(400), x.cook(1, 1)), 400, 400);
        while (x.now() < 9900) {
            x.run(Math.min(9900, x.now() + 400));
        }
        x.task(60, 0, 1);
        x.task(41, 0, 1);
        x.limit(1, 400);
        CHECK.dueRow("run(10001), run(10000), run(10000), run(10001)",
                row(x.run(10001), x.run(10000), x.run(10000), x.run(10001)), -1, 10000, 10000, -1);
        CHECK.dueRow("now(), end(2, 0), state(1), state(3)", row(x.now(), x.end(2, 0), x.state(1), x.state(3)),
                10000, 9941, 2, 0);
        CHECK.dueRow("callOff(1, 9999), callOff(1, 10000)", row(x.callOff(1, 9999), x.callOff(1, 10000)), -1, 1);
        CHECK.due("end(value(1), 0)", x.end(x.value(1), 0), 10000);
    }

    private static void promise21() {
        CHECK.about("promise 21");
        PromiseKitchen x = new PromiseKitchen();
        x.task(9, 0, 1);
        CHECK.dueRow("state() of wrong numbers", row(x.state(0), x.state(2), x.state(-1), x.state(MOST)), -1, -1, -1, -1);
        x.nested(2, 0, 0, 1);
        x.retry(1, 4, 1, 1, 9);
        x.always(1, 1, 0, 0);
        x.then(1, 0, 0);
        x.value(1);
        x.failed(1);
        CHECK.due("state(1) READY", x.state(1), 1);
        CHECK.dueRow("state(4 to 8)", row(x.state(4), x.state(5), x.state(6), x.state(7), x.state(8)), 0, 0, 0, 5, 6);
        x.run(3);
        // minute 0: 3 is taken; 1: it PAUSES, 2 is taken; 2: that WAITS, 1 is taken
        CHECK.dueRow("state(1 to 3)", row(x.state(1), x.state(2), x.state(3)), 2, 3, 4);
        x.callOff(3, 3);
        x.callOff(1, 3);
        x.run(4);
        CHECK.dueRow("state(1 to 6)", row(x.state(1), x.state(2), x.state(3), x.state(4), x.state(5), x.state(6)),
                7, 7, 7, 2, 0, 7);
    }

    private static void promise22() {
        CHECK.about("promise 22");
        PromiseKitchen x = new PromiseKitchen();
        x.value(-1);
        x.failed(1);
        x.task(1, 0, 0);
        x.task(1, 0, 0);
        x.callOff(4, 0);
        x.run(1);
        CHECK.due("answer(1)", x.answer(1), -1);
        for (int s = 2; s <= 4; s++) {
            int stage = s;
            CHECK.dueThrow("answer(" + s + ")", IllegalStateException.class, () -> x.answer(stage));
        }
        for (int s : row(0, 5, -1, LEAST, MOST)) {
            CHECK.dueThrow("answer(" + s + ")", IllegalArgumentException.class, () -> x.answer(s));
        }
    }

    private static void promise23() {
        CHECK.about("promise 23");
        PromiseKitchen x = new PromiseKitchen();
        x.task(3, 0, 0);
        x.value(1);
        CHECK.dueRow("end() of wrong numbers", row(x.end(0, 0), x.end(3, 0), x.end(1, -1), x.end(1, 2), x.end(2, 2)),
                -1, -1, -1, -1, -1);
        CHECK.dueRow("end(1, 0 and 1)", row(x.end(1, 0), x.end(1, 1)), -3, -3);
        CHECK.dueRow("end(2, 0 and 1)", row(x.end(2, 0), x.end(2, 1)), 0, 1);
        x.run(9);
        CHECK.dueRow("end(1, 0 and 1)", row(x.end(1, 0), x.end(1, 1)), 3, 2);
    }

    private static void promise24() {
        CHECK.about("promise 24");
        PromiseKitchen x = new PromiseKitchen();
        x.failed(3);
        x.then(1, 0, 0);
        x.failed(8);
        x.any(1, 3, 3);
        x.any(3, 2, 1);
        x.always(5, 1, 4, 7);
        x.value(1);
        x.task(1, 0, 0);
        x.run(2);
        // 4: kind 2, CAUSE that of 3, SUPPRESSED that of 1 (twice); 5: CAUSE that of 4, SUPPRESSED that of 3
        int[][] due = {{2, 7, -4, 0}, {2, 5, 0, 1}, {2, 4, 1, 1}, {8, 3, 2, 1}, {3, 1, 2, 2}, {7, 6, 0, 2}};
        x.run(4);
        for (int i = 0; i < due.length; i++) {
            CHECK.dueRow("failure(7, " + i + ", 0 to 3)", row(x.failure(7, i, 0), x.failure(7, i, 1),
                    x.failure(7, i, 2), x.failure(7, i, 3)), due[i]);
        }
        CHECK.dueRow("failure(3, 0, 0 to 3), first in its own row", row(x.failure(3, 0, 0), x.failure(3, 0, 1),
                x.failure(3, 0, 2), x.failure(3, 0, 3)), 8, 3, -4, 0);
        CHECK.dueRow("failure(2, 0, 1)", row(x.failure(2, 0, 1)), 1);
        for (int i : row(6, -1, LEAST, MOST)) {
            CHECK.dueThrow("failure(7, " + i + ", 0)", IndexOutOfBoundsException.class, () -> x.failure(7, i, 0));
        }
        CHECK.dueThrow("failure(0, 0, 0)", IllegalArgumentException.class, () -> x.failure(0, 0, 0));
        CHECK.dueThrow("failure(10, 0, 0)", IllegalArgumentException.class, () -> x.failure(10, 0, 0));
        CHECK.dueThrow("failure(7, 99, 4)", IllegalArgumentException.class, () -> x.failure(7, 99, 4));
        CHECK.dueThrow("failure(8, 0, -1)", IllegalArgumentException.class, () -> x.failure(8, 0, -1));
        CHECK.dueThrow("failure(8, 99, 0)", IllegalStateException.class, () -> x.failure(8, 99, 0));
        x.task(9, 0, 0);
        x.callOff(10, 5);
        CHECK.dueThrow("failure(10, 0, 0)", IllegalStateException.class, () -> x.failure(10, 0, 0));
        x.run(6);
        CHECK.dueThrow("failure(10, 0, 0)", IllegalStateException.class, () -> x.failure(10, 0, 0));
        longestChain();
    }

    private static void longestChain() {
        PromiseKitchen x = new PromiseKitchen();
        x.failed(9);
        for (int s = 2; s <= 200; s++) {
            x.any(s - 1, 1, 1);
        }
        CHECK.dueRow("failure(200, 0 and 199, 1)", row(x.failure(200, 0, 1), x.failure(200, 199, 1)), 200, 1);
        CHECK.due("failure(200, 199, 2)", x.failure(200, 199, 2), 198);
        CHECK.dueThrow("failure(200, 200, 0)", IndexOutOfBoundsException.class, () -> x.failure(200, 200, 0));
    }

    private static void promise25() {
        CHECK.about("promise 25");
        PromiseKitchen x = new PromiseKitchen();
        x.retry(1, 4, 1, 2, 1);
        x.value(1);
        x.task(1, 0, 0);
        CHECK.dueRow("work() of wrong numbers", row(x.work(0, 0), x.work(4, 0), x.work(2, 0), x.work(1, -1),
                x.work(1, 4)), -1, -1, -1, -1, -1);
        CHECK.dueRow("work(1, 0 to 3)", row(x.work(1, 0), x.work(1, 1), x.work(1, 2), x.work(1, 3)), 0, 0, 0, 0);
        x.cooks(3);
        x.run(1);
        CHECK.dueRow("work(1, 0), work(3, 0)", row(x.work(1, 0), x.work(3, 0)), 2, 1);
        x.run(3);
        // the pause is over at 2: now the first cook takes it
        CHECK.dueRow("work(1, 0 to 3)", row(x.work(1, 0), x.work(1, 1), x.work(1, 2), x.work(1, 3)), 1, 2, 0, 1);
        x.run(4);
        x.callOff(1, 4);
        x.run(9);
        CHECK.dueRow("work(1, 0 to 3), called off in a pause", row(x.work(1, 0), x.work(1, 1), x.work(1, 2),
                x.work(1, 3)), 1, 2, 0, 2);
        x.task(5, 0, 0);
        x.callOff(4, 11);
        x.run(12);
        CHECK.dueRow("work(4, 0 to 3), called off at work", row(x.work(4, 0), x.work(4, 1), x.work(4, 2),
                x.work(4, 3)), 1, 1, 1, 0);
        x.task(5, 0, 0);
        x.nested(2, 0, 0, 5);
        x.callOff(6, 14);
        x.run(15);
        CHECK.dueRow("state(5), work(6, 2), called off while it WAITS", row(x.state(5), x.work(6, 2)), 7, 1);
    }

    private static void promise26() {
        CHECK.about("promise 26");
        PromiseKitchen x = new PromiseKitchen();
        x.retry(2, 4, 1, 5, 4);
        x.value(1);
        x.task(1, 4, 1);
        CHECK.dueRow("pause() of wrong numbers", row(x.pause(0, 1), x.pause(4, 1), x.pause(2, 1), x.pause(3, 1),
                x.pause(1, 0), x.pause(1, 1)), -1, -1, -1, -1, -1, -1);
        x.run(4);
        // 3 is taken at 0, 1 at 1: its WORKING is done at 3
        CHECK.dueRow("pause(1, 1), pause(1, 2), pause(3, 1)", row(x.pause(1, 1), x.pause(1, 2), x.pause(3, 1)), 7, -1, -1);
        x.callOff(1, 5);
        x.run(9);
        CHECK.dueRow("state(1), pause(1, 1)", row(x.state(1), x.pause(1, 1)), 7, 7);
        CHECK.dueRow("pause(1, 0), pause(1, 2), pause(1, MIN)", row(x.pause(1, 0), x.pause(1, 2), x.pause(1, LEAST)),
                -1, -1, -1);
    }

    private static void promise27() {
        CHECK.about("promise 27");
        PromiseKitchen x = new PromiseKitchen();
        x.cooks(2);
        CHECK.dueRow("cook() of wrong numbers", row(x.cook(0, 0), x.cook(3, 0), x.cook(1, -1), x.cook(1, 4)),
                -1, -1, -1, -1);
        x.task(4, 0, 0);
        x.nested(2, 0, 0, 1);
        x.nested(2, 0, 0, 2);
        x.run(1);
        // cook 1 takes 3, cook 2 takes 2; both WAIT at 1: cook 1 helps with 1, cook 2 has nothing to help with
        CHECK.dueRow("cook(1 and 2, 3)", row(x.cook(1, 3), x.cook(2, 3)), 3, 2);
        x.run(3);
        CHECK.dueRow("cook(1, 0 to 3)", row(x.cook(1, 0), x.cook(1, 1), x.cook(1, 2), x.cook(1, 3)), 1, 0, 2, 1);
        CHECK.dueRow("cook(2, 0 to 3)", row(x.cook(2, 0), x.cook(2, 1), x.cook(2, 2), x.cook(2, 3)), 0, 2, 1, 2);
        x.run(6);
        // 1 ends at 5: cook 1 WAITS with 3 at the ends of 5 (and no longer at 6, when 2 ends), cook 2 goes on
        CHECK.dueRow("cook(1, 0 to 3)", row(x.cook(1, 0), x.cook(1, 1), x.cook(1, 2), x.cook(1, 3)), 1, 1, 1, 3);
        CHECK.dueRow("cook(2, 0 to 3)", row(x.cook(2, 0), x.cook(2, 1), x.cook(2, 2), x.cook(2, 3)), 0, 4, 1, 2);
        x.run(10);
        CHECK.dueRow("cook(1, 0 to 3)", row(x.cook(1, 0), x.cook(1, 1), x.cook(1, 2), x.cook(1, 3)), 1, 4, 0, 0);
        CHECK.dueRow("cook(2, 0 to 3)", row(x.cook(2, 0), x.cook(2, 1), x.cook(2, 2), x.cook(2, 3)), 0, 8, 0, 0);
    }

    private static void promise28() {
        CHECK.about("promise 28");
        PromiseKitchen x = new PromiseKitchen();
        x.task(1, 0, 0);
        x.task(9, 0, 0);
        CHECK.dueRow("served() of wrong numbers", row(x.served(0), x.served(3)), -1, -1);
        CHECK.due("served(1)", x.served(1), 0);
        x.first(1, 1);
        x.both(1, 2, 0);
        x.nested(2, 0, 0, 1);
        x.limit(2, 3);
        x.always(1, 1, 0, 0);
        CHECK.dueRow("served(1 to 7)", row(x.served(1), x.served(2), x.served(3), x.served(7)), 5, 2, 0, 1);
        x.first(3, 4);
        CHECK.dueRow("served(3), served(4)", row(x.served(3), x.served(4)), 1, 1);
        x.value(1);
        x.first(10, 1);
        CHECK.due("served(1): the new one has ended", x.served(1), 5);
        x.callOff(4, 0);
        x.run(1);
        // 4 and with it 9 are called off, and 3 by the DUES of 9
        CHECK.dueRow("served(1 to 4)", row(x.served(1), x.served(2), x.served(3), x.served(4)), 3, 1, 0, 0);
    }

    private static void promise29() {
        CHECK.about("promise 29");
        PromiseKitchen x = new PromiseKitchen();
        x.task(1, 0, 0);
        CHECK.due("stages()", x.stages(), 1);
        x.task(0, 0, 0);
        CHECK.due("stages()", x.stages(), 1);
        x.always(1, 1, 0, 0);
        CHECK.due("stages()", x.stages(), 3);
        x.run(9);
        CHECK.due("stages()", x.stages(), 3);
    }

    private static void promise30() {
        CHECK.about("promise 30");
        PromiseKitchen x = new PromiseKitchen();
        CHECK.dueRow("log() of an empty one", row(x.log(0, 0), x.log(-1, 0)), -1, -1);
        x.task(2, 0, 0);
        x.nested(2, 0, 0, 1);
        x.retry(1, 4, 1, 1, 1);
        x.task(1, 4, 6);
        x.nested(2, 0, 0, 4);
        x.callOff(5, 1);
        x.run(9);
        // 5 is taken at 0 and called off at 1, when 4 (which served 5 alone) is called off, too
        CHECK.dueLog(x, row(0, 5, 1), row(1, 5, 4), row(1, 4, 4), row(1, 3, 1), row(2, 3, 7), row(2, 2, 1), row(3, 2, 5),
                row(3, 1, 1), row(5, 1, 2), row(5, 2, 6), row(6, 2, 2), row(6, 3, 1), row(7, 3, 3));
        CHECK.dueRow("log() of wrong numbers", row(x.log(0, -1), x.log(0, 3), x.log(-1, 0), x.log(13, 0), x.log(MOST, 0),
                x.log(LEAST, 2)), -1, -1, -1, -1, -1, -1);

        x = new PromiseKitchen();
        x.cooks(2);
        x.task(3, 4, 6);
        x.nested(2, 0, 0, 1);
        x.then(2, 0, 0);
        x.run(4);
        CHECK.dueLog(x, row(0, 2, 1), row(0, 1, 1), row(1, 2, 5), row(3, 1, 3), row(3, 2, 6), row(3, 2, 3), row(3, 3, 3));
    }

    private static void exampleOfReadme() {
        CHECK.about("the example of README.md");
        PromiseKitchen kitchen = new PromiseKitchen();
        kitchen.cooks(2);
        int soup = kitchen.task(5, 0, 10);
        int bread = kitchen.retry(3, 0, 7, 2, 1);
        int meal = kitchen.both(soup, bread, 0);
        int served = kitchen.limit(meal, 30);
        kitchen.run(20);
        CHECK.due("answer(served)", kitchen.answer(served), 17);
    }
}
