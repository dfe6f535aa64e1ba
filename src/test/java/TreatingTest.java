/** The Terms: what an end brings about, DUES, and the order in which a minute is treated. */
public final class TreatingTest {
    private static final Check CHECK = new Check();

    public static void main(String[] args) {
        readyWorksAreTakenInOrder();
        readyMinutesOfHeldAndPaused();
        endsBringAboutByNumber();
        duesGoByPlace();
        duesWhenAStageIsMade();
        duesSpareWhatServesOthers();
        duesOnlyOnce();
        calledOffAheadOfWorks();
        worksAheadOfLimits();
        resumedCookGoesOn();
        oneCooksTurnTakesFromAnother();
        helpOnlyWithWhatItHangsOn();
        pileLosesOneFromBelow();
        heldWorkIsReadyInTheSameMinute();
        readyFromWhenItWasMade();
        stepsInOrder();
        worksOverByNumber();
        theActGoesOnBehindDues();
        waitsBelowTheUpmost();
        helpsInOrder();
        resumedEachWay();
        cooksByNumber();
        turnIsOverThoughNoneWasTaken();
        cooksFromNowOn();
        CHECK.finish();
    }

    private static int[] row(int... cells) {
        return cells;
    }

    private static void readyWorksAreTakenInOrder() {
        CHECK.about("READY works: the lowest minute, then the highest number");
        PromiseKitchen x = new PromiseKitchen();
        x.task(2, 0, 0);
        x.task(2, 0, 0);
        x.task(2, 0, 0);
        x.run(1);
        x.task(2, 0, 0);
        x.task(2, 0, 0);
        x.run(9);
        CHECK.dueLog(x, row(0, 3, 1), row(2, 3, 2), row(2, 2, 1), row(4, 2, 2), row(4, 1, 1), row(6, 1, 2), row(6, 5, 1),
                row(8, 5, 2), row(8, 4, 1));
    }

    private static void readyMinutesOfHeldAndPaused() {
        CHECK.about("the READY minutes of HELD and PAUSED works");
        PromiseKitchen x = new PromiseKitchen();
        x.task(3, 0, 0);
        x.retry(1, 4, 1, 1, 1);
        x.always(1, 1, 0, 0);
        x.run(1);
        x.task(1, 0, 0);
        x.run(20);
        // 2 works 0-1 and is READY again at 2; 5 is READY at 1, 3 at 4 when 1 has ended
        CHECK.dueLog(x, row(0, 2, 1), row(1, 2, 7), row(1, 1, 1), row(4, 1, 2), row(4, 5, 1), row(5, 5, 2), row(5, 2, 1),
                row(6, 2, 3), row(6, 3, 1), row(7, 3, 2), row(7, 4, 2));
    }

    private static void endsBringAboutByNumber() {
        CHECK.about("an end brings about others by number, in one go");
        PromiseKitchen x = new PromiseKitchen();
        x.task(1, 0, 5);
        x.then(1, 0, 1);
        x.then(2, 2, 2);
        x.both(1, 3, 0);
        x.first(4, 3);
        x.all(1, 5);
        x.any(1, 6, 6);
        x.run(2);
        for (int s = 1; s <= 7; s++) {
            CHECK.dueRow("end(" + s + ", 0 and 1)", row(x.end(s, 0), x.end(s, 1)), 1, s);
        }
        CHECK.dueRow("answers", row(x.answer(3), x.answer(4), x.answer(5), x.answer(6), x.answer(7)), 12, 17, 12, 52, 52);
    }

    private static void duesGoByPlace() {
        CHECK.about("DUES by PLACE, what is called off by them behind");
        PromiseKitchen x = new PromiseKitchen();
        x.task(9, 0, 0);
        x.task(9, 0, 0);
        x.then(1, 0, 0);
        x.then(2, 0, 0);
        x.task(9, 0, 0);
        x.both(4, 3, 0);
        x.both(6, 5, 0);
        x.first(7, 2);
        x.callOff(6, 0);
        x.run(1);
        // 6, then 7 and 8 as it; DUES of 6: 4, 3; of 7: 5; of 8: 2 (4, which had it, has ended); of 4: -; of 3: 1
        CHECK.dueLog(x, row(0, 6, 4), row(0, 7, 4), row(0, 8, 4), row(0, 4, 4), row(0, 3, 4), row(0, 5, 4), row(0, 2, 4),
                row(0, 1, 4));
    }

    private static void duesWhenAStageIsMade() {
        CHECK.about("DUES of a stage that ends when it is made");
        PromiseKitchen x = new PromiseKitchen();
        x.task(9, 0, 0);
        x.task(9, 0, 0);
        x.callOff(1, 1);
        x.run(2);
        x.both(2, 1, 0);
        CHECK.dueRow("state(2), work(2, 2), end(2, 0), cook(1, 2)", row(x.state(2), x.work(2, 2), x.end(2, 0), x.cook(1, 2)),
                7, 1, 2, 0);
        CHECK.dueRow("end(3, 1), end(2, 1)", row(x.end(3, 1), x.end(2, 1)), 2, 3);
    }

    private static void duesSpareWhatServesOthers() {
        CHECK.about("DUES spare what others have as an INPUT, and what only ended otherwise");
        PromiseKitchen x = new PromiseKitchen();
        x.task(9, 0, 0);
        x.task(9, 0, 0);
        x.both(1, 2, 0);
        x.nested(60, 0, 0, 2);
        x.failed(3);
        x.first(1, 5);
        CHECK.dueRow("state(6): FAILED, no DUES of it", row(x.state(6), x.state(1)), 6, 1);
        x.callOff(3, 0);
        x.run(1);
        CHECK.dueRow("state(1), state(2)", row(x.state(1), x.state(2)), 7, 1);
        x.callOff(4, 1);
        x.run(2);
        CHECK.due("state(2)", x.state(2), 7);
    }

    private static void duesOnlyOnce() {
        CHECK.about("a stage called off has DUES once");
        PromiseKitchen x = new PromiseKitchen();
        x.cooks(2);
        x.task(9, 0, 0);
        x.task(2, 0, 0);
        x.then(1, 0, 0);
        x.first(1, 2);
        x.task(60, 0, 0);
        x.callOff(3, 0);
        x.callOff(5, 4);
        x.run(5);
        // 4 has ended with the value of 2, so nothing has 1 as an INPUT when the DUES of 5 come
        CHECK.dueRow("states: 1 goes on", row(x.state(1), x.state(3), x.state(4), x.state(5)), 2, 7, 5, 7);
    }

    private static void calledOffAheadOfWorks() {
        CHECK.about("callings off by number, ahead of the works");
        PromiseKitchen x = new PromiseKitchen();
        x.cooks(2);
        x.task(2, 0, 0);
        x.task(2, 0, 0);
        x.task(2, 0, 0);
        x.callOff(3, 2);
        x.callOff(1, 2);
        x.run(3);
        CHECK.dueLog(x, row(0, 3, 1), row(0, 2, 1), row(2, 1, 4), row(2, 3, 4), row(2, 2, 2));
        CHECK.dueRow("work(1 and 3, 2)", row(x.work(1, 2), x.work(3, 2)), 0, 1);
    }

    private static void worksAheadOfLimits() {
        CHECK.about("works, limits, ends of pauses, cooks, in this order");
        PromiseKitchen x = new PromiseKitchen();
        x.cooks(2);
        x.task(3, 0, 0);
        x.retry(1, 4, 1, 1, 2);
        x.task(60, 0, 0);
        x.limit(1, 3);
        x.limit(3, 3);
        x.limit(2, 3);
        x.run(4);
        // cook 1: 3, cook 2: 2 0-1, then 1 from 1 on (over at 4); at 3 all limits fail, and call off 1, 3 and 2
        CHECK.dueLog(x, row(0, 3, 1), row(0, 2, 1), row(1, 2, 7), row(1, 1, 1), row(3, 4, 3), row(3, 1, 4), row(3, 5, 3),
                row(3, 3, 4), row(3, 6, 3), row(3, 2, 4));
        CHECK.dueRow("state(2), pause(2, 1)", row(x.state(2), x.pause(2, 1)), 7, 3);
    }

    private static void resumedCookGoesOn() {
        CHECK.about("a cook whose work ends by being RESUMED goes on");
        PromiseKitchen x = new PromiseKitchen();
        x.task(1, 0, 0);
        x.task(4, 4, 8);
        x.nested(2, 0, 0, 2);
        x.nested(2, 0, 0, 3);
        x.run(7);
        // 4 waits at 1, 3 is taken and waits at 2, 2 is taken and fails at 6: 3, 4 fail, 1 is taken, all at 6
        CHECK.dueLog(x, row(0, 4, 1), row(1, 4, 5), row(1, 3, 1), row(2, 3, 5), row(2, 2, 1), row(6, 2, 3), row(6, 3, 6),
                row(6, 3, 3), row(6, 4, 6), row(6, 4, 3), row(6, 1, 1));
        CHECK.dueRow("failure(4, 2, 0 to 3)", row(x.failure(4, 2, 0), x.failure(4, 2, 1), x.failure(4, 2, 2),
                x.failure(4, 2, 3)), 8, 2, 1, 1);
    }

    private static void oneCooksTurnTakesFromAnother() {
        CHECK.about("what one cook's turn ends is gone from the others");
        PromiseKitchen x = new PromiseKitchen();
        x.cooks(2);
        x.task(1, 0, 0);
        x.task(2, 0, 0);
        x.nested(2, 0, 0, 2);
        x.both(1, 3, 0);
        x.callOff(2, 1);
        x.run(1);
        CHECK.dueRow("cook(1 and 2, 3)", row(x.cook(1, 3), x.cook(2, 3)), 3, 2);
        x.run(2);
        // 2 is called off at 1, 3 in step 2 of that minute, 4 as it, and by its DUES 1
        CHECK.dueRow("states", row(x.state(1), x.state(2), x.state(3), x.state(4)), 7, 7, 7, 7);

        x = new PromiseKitchen();
        x.cooks(3);
        x.task(5, 0, 0);
        x.task(60, 0, 0);
        x.task(4, 0, 0);
        x.nested(2, 0, 0, 1);
        x.both(2, 4, 0);
        x.run(1);
        // cook 1: 4, cook 2: 3, cook 3: 2; 4 waits at 1 and cook 1 helps with 1
        x.run(2);
        CHECK.dueRow("cooks' upmost works", row(x.cook(1, 3), x.cook(2, 3), x.cook(3, 3)), 1, 3, 2);
        x.callOff(1, 3);
        x.run(4);
        // 1 is called off; cook 1 is RESUMED with 4, which is called off, so is 5, and 2 at cook 3
        CHECK.dueRow("states", row(x.state(1), x.state(2), x.state(4), x.state(5)), 7, 7, 7, 7);
        CHECK.dueRow("idle minutes", row(x.cook(1, 1), x.cook(2, 1), x.cook(3, 1)), 1, 0, 1);
        CHECK.dueRow("work(1, 2 and 4, INTERRUPTED)", row(x.work(1, 2), x.work(2, 2), x.work(4, 2)), 1, 1, 1);

        x = new PromiseKitchen();
        x.cooks(2);
        x.task(60, 0, 0);
        x.task(60, 0, 0);
        x.nested(2, 0, 0, 1);
        x.both(2, 3, 0);
        x.task(4, 0, 0);
        x.callOff(1, 4);
        x.run(5);
        // at 4 cook 1 is free for 2, then cook 2 is RESUMED with 3: it is called off, so is 4, and by its DUES 2
        CHECK.dueLog(x, row(0, 5, 1), row(0, 3, 1), row(1, 3, 5), row(1, 1, 1), row(4, 1, 4), row(4, 5, 2), row(4, 2, 1),
                row(4, 3, 6), row(4, 3, 4), row(4, 4, 4), row(4, 2, 4));
        CHECK.dueRow("work(2, 2), idle minutes", row(x.work(2, 2), x.cook(1, 1), x.cook(2, 1)), 1, 1, 1);
    }

    private static void helpOnlyWithWhatItHangsOn() {
        CHECK.about("a cook that waits helps with what its INPUT HANGS ON");
        PromiseKitchen x = new PromiseKitchen();
        x.task(1, 0, 0);
        x.retry(1, 4, 1, 1, 5);
        x.then(2, 0, 0);
        x.onFailure(3, 0, 1);
        x.always(4, 1, 0, 0);
        x.task(1, 0, 0);
        x.nested(2, 0, 0, 6);
        x.run(30);
        // of 1, 2, 5 (HELD) and 7, the awaited 6 hangs on 1, 2 and 5: 7 is taken only when the pile is empty
        CHECK.dueRow("places of 2, 1, 5, 6, 8, 7", row(x.end(1, 1), x.end(2, 1), x.end(5, 1), x.end(6, 1), x.end(8, 1),
                x.end(7, 1)), 1, 2, 5, 6, 7, 8);
        CHECK.dueRow("cook(1, 0), end(7, 0)", row(x.cook(1, 0), x.end(7, 0)), 4, 11);
    }

    private static void pileLosesOneFromBelow() {
        CHECK.about("a work called off from below in a pile");
        PromiseKitchen x = new PromiseKitchen();
        x.task(9, 0, 0);
        x.nested(2, 0, 0, 1);
        x.nested(2, 0, 0, 2);
        x.then(1, 0, 0);
        x.then(2, 0, 0);
        x.run(3);
        CHECK.dueRow("cook(1, 2 and 3)", row(x.cook(1, 2), x.cook(1, 3)), 3, 1);
        x.callOff(3, 3);
        x.run(4);
        CHECK.dueRow("cook(1, 2 and 3), work(3, 2)", row(x.cook(1, 2), x.cook(1, 3), x.work(3, 2)), 2, 1, 1);
        x.callOff(2, 4);
        x.run(5);
        CHECK.dueRow("cook(1, 2 and 3), state(5)", row(x.cook(1, 2), x.cook(1, 3), x.state(5)), 1, 1, 7);
        x.run(12);
        CHECK.dueRow("state(1), end(1, 0)", row(x.state(1), x.end(1, 0)), 5, 11);
    }

    private static void heldWorkIsReadyInTheSameMinute() {
        CHECK.about("an end brings about others: a HELD work whose INPUT has ended becomes READY");
        PromiseKitchen x = new PromiseKitchen();
        x.task(2, 0, 5);
        x.then(1, 0, 1);
        x.always(2, 3, 0, 0);
        x.then(4, 0, 1);
        x.run(3);
        CHECK.dueRow("states", Check.states(x, 1, 2, 3, 4, 5), 5, 5, 2, 0, 0);
        x.run(6);
        CHECK.dueLog(x, row(0, 1, 1), row(2, 1, 2), row(2, 2, 2), row(2, 3, 1), row(5, 3, 2), row(5, 4, 2), row(5, 5, 2));
        CHECK.dueRow("answer(4), answer(5)", row(x.answer(4), x.answer(5)), 6, 7);
    }

    private static void readyFromWhenItWasMade() {
        CHECK.about("READY from the minute NOW at which it was made (a CLOSING WORK too, whose INPUT had ended then)");
        PromiseKitchen x = new PromiseKitchen();
        x.value(1);
        x.task(4, 0, 0);
        x.run(1);
        x.task(1, 0, 0);
        x.run(2);
        x.always(1, 1, 0, 0);
        x.run(6);
        // 3 is READY from 1 on, 4 from 2 on, though its INPUT ended at 0
        CHECK.dueLog(x, row(0, 1, 2), row(0, 2, 1), row(4, 2, 2), row(4, 3, 1), row(5, 3, 2), row(5, 4, 1));
    }

    private static void stepsInOrder() {
        CHECK.about("step 1 ahead of step 2: a work that is CALLED OFF when its time is over");
        PromiseKitchen x = new PromiseKitchen();
        x.task(3, 0, 0);
        x.then(1, 0, 0);
        x.callOff(1, 3);
        x.callOff(2, 3);
        x.run(4);
        CHECK.dueLog(x, row(0, 1, 1), row(3, 1, 4), row(3, 2, 4));

        CHECK.about("step 1 ahead of step 3: a limit() that is CALLED OFF at its DUE minute");
        x = new PromiseKitchen();
        x.task(60, 0, 0);
        x.limit(1, 3);
        x.callOff(2, 3);
        x.run(4);
        CHECK.dueLog(x, row(0, 1, 1), row(3, 2, 4), row(3, 1, 4));

        CHECK.about("step 1 ahead of step 5: a READY work that is CALLED OFF is not taken");
        x = new PromiseKitchen();
        x.task(2, 0, 0);
        x.task(2, 0, 0);
        x.callOff(2, 0);
        x.run(1);
        CHECK.dueLog(x, row(0, 2, 4), row(0, 1, 1));

        CHECK.about("step 2 ahead of step 3: s ends at the DUE minute");
        x = new PromiseKitchen();
        x.task(3, 4, 9);
        x.limit(1, 3);
        x.run(4);
        CHECK.dueFailures(x, 2, row(9, 1, -4, 0));

        CHECK.about("step 3 ahead of step 5: a READY work whose limit() FAILS is not taken");
        x = new PromiseKitchen();
        x.task(3, 0, 0);
        x.limit(1, 3);
        x.task(3, 0, 0);
        x.run(4);
        CHECK.dueLog(x, row(0, 3, 1), row(3, 3, 2), row(3, 2, 3), row(3, 1, 4));

        CHECK.about("step 4 ahead of step 5: a retry() whose pause is over is taken in that minute");
        x = new PromiseKitchen();
        x.retry(1, 4, 1, 1, 2);
        x.run(4);
        CHECK.dueLog(x, row(0, 1, 1), row(1, 1, 7), row(3, 1, 1));
    }

    private static void worksOverByNumber() {
        CHECK.about("step 2: the WORKS at work whose time is over at M, by number, whoever has them");
        PromiseKitchen x = new PromiseKitchen();
        x.cooks(3);
        x.task(5, 0, 0);
        x.retry(5, 4, 1, 1, 9);
        x.value(0);
        x.nested(5, 0, 0, 3);
        x.task(60, 0, 0);
        x.callOff(5, 0);
        x.run(6);
        CHECK.dueLog(x, row(0, 3, 2), row(0, 5, 4), row(0, 4, 1), row(0, 2, 1), row(0, 1, 1), row(5, 1, 2), row(5, 2, 7),
                row(5, 4, 2));
    }

    private static void theActGoesOnBehindDues() {
        CHECK.about("DUES. Then the act that ended the first stage goes on: step 1");
        PromiseKitchen x = new PromiseKitchen();
        x.task(60, 0, 0);
        x.then(1, 0, 0);
        x.task(60, 0, 0);
        x.callOff(2, 0);
        x.callOff(3, 0);
        x.run(1);
        CHECK.dueLog(x, row(0, 2, 4), row(0, 1, 4), row(0, 3, 4));

        CHECK.about("DUES. Then the act that ended the first stage goes on: step 2");
        x = new PromiseKitchen();
        x.cooks(4);
        x.task(9, 0, 0);
        x.task(9, 0, 0);
        x.nested(6, 0, 0, 1);
        x.both(3, 2, 0);
        x.task(3, 0, 0);
        x.callOff(1, 3);
        x.run(4);
        CHECK.dueLog(x, row(0, 5, 1), row(0, 3, 1), row(0, 2, 1), row(0, 1, 1), row(3, 1, 4), row(3, 3, 4), row(3, 4, 4),
                row(3, 2, 4), row(3, 5, 2));

        CHECK.about("DUES. Then the act that ended the first stage goes on: step 3");
        x = new PromiseKitchen();
        x.task(60, 0, 0);
        x.limit(1, 1);
        x.task(60, 0, 0);
        x.limit(3, 1);
        x.run(2);
        CHECK.dueLog(x, row(0, 3, 1), row(1, 2, 3), row(1, 1, 4), row(1, 4, 3), row(1, 3, 4));

        CHECK.about("DUES. Then the act that ended the first stage goes on: step 5");
        x = new PromiseKitchen();
        x.task(60, 0, 0);
        x.task(9, 0, 0);
        x.nested(2, 0, 0, 1);
        x.both(2, 3, 0);
        x.run(2);
        x.task(9, 0, 0);
        x.callOff(1, 3);
        x.run(4);
        // 2 is CALLED OFF by the DUES of 4, so that the cook, which goes on, takes 5
        CHECK.dueLog(x, row(0, 3, 1), row(1, 3, 5), row(1, 1, 1), row(3, 1, 4), row(3, 3, 6), row(3, 3, 4), row(3, 4, 4),
                row(3, 2, 4), row(3, 5, 1));
    }

    private static void waitsBelowTheUpmost() {
        CHECK.about("A cook works at the upmost one, or waits with it: one below is RESUMED when it is the upmost again");
        PromiseKitchen x = new PromiseKitchen();
        x.cooks(2);
        x.task(10, 0, 1);
        x.task(4, 0, 2);
        x.first(1, 2);
        x.nested(2, 0, 100, 3);
        x.run(5);
        // cook 1 has 4 and helps with 1 from 1 to 11, cook 2 has 2 from 0 to 4
        CHECK.dueRow("states", Check.states(x, 1, 2, 3, 4), 2, 5, 5, 3);
        CHECK.dueRow("cook(1, 1 to 3)", row(x.cook(1, 1), x.cook(1, 2), x.cook(1, 3)), 0, 2, 1);
        x.run(13);
        CHECK.dueLog(x, row(0, 4, 1), row(0, 2, 1), row(1, 4, 5), row(1, 1, 1), row(4, 2, 2), row(4, 3, 2), row(11, 1, 2),
                row(11, 4, 6), row(12, 4, 2));
        CHECK.due("answer(4)", x.answer(4), 102);
    }

    private static void helpsInOrder() {
        CHECK.about("it HELPS with the one of the lowest READY minute, of those the highest number");
        PromiseKitchen x = new PromiseKitchen();
        x.task(1, 0, 0);
        x.task(3, 0, 0);
        x.retry(1, 4, 1, 5, 1);
        x.all(1, 3);
        x.nested(2, 0, 0, 4);
        x.run(8);
        // at 5 the READY minute of 1 is 0, that of 3 (behind its pause) is 3
        CHECK.dueLog(x, row(0, 5, 1), row(1, 5, 5), row(1, 3, 1), row(2, 3, 7), row(2, 2, 1), row(5, 2, 2), row(5, 1, 1),
                row(6, 1, 2), row(6, 3, 1), row(7, 3, 7));
        CHECK.due("cook(1, 0)", x.cook(1, 0), 4);
    }

    private static void resumedEachWay() {
        CHECK.about("RESUMED: if that has a value, the second part begins at M; if it FAILED, it FAILS; if CALLED OFF, so is it");
        // how 1 ends at 6: by its function, or called off; the state of 2 behind that, and the log's last entries
        int[][] ways = {{0, 10000, 2}, {4, 10000, 6}, {0, 6, 7}};
        for (int[] way : ways) {
            PromiseKitchen x = new PromiseKitchen();
            x.cooks(2);
            x.task(6, way[0], 9);
            x.nested(4, 0, 50, 1);
            x.callOff(1, way[1]);
            x.run(6);
            CHECK.dueRow("states", Check.states(x, 1, 2), 2, 3);
            x.run(7);
            CHECK.dueRow("state(2), cook(1, 2), work(2, 2)", row(x.state(2), x.cook(1, 2), x.work(2, 2)), way[2],
                    way[2] == 2 ? 1 : 0, way[2] == 7 ? 1 : 0);
            CHECK.dueRow("log(4, 0 to 2)", row(x.log(4, 0), x.log(4, 1), x.log(4, 2)), 6, 2, 6);
            if (way[2] == 6) {
                CHECK.dueFailures(x, 2, row(12, 2, -4, 0), row(9, 1, 0, 1));
            } else if (way[2] == 2) {
                x.run(9);
                CHECK.dueRow("answer(2), end(2, 0)", row(x.answer(2), x.end(2, 0)), 59, 8);
            }
        }
    }

    private static void cooksByNumber() {
        CHECK.about("step 5: the cooks, by number");
        PromiseKitchen x = new PromiseKitchen();
        x.cooks(4);
        x.task(9, 0, 0);
        x.task(9, 0, 0);
        x.task(9, 0, 0);
        x.run(1);
        CHECK.dueRow("cook(1 to 4, 3)", row(x.cook(1, 3), x.cook(2, 3), x.cook(3, 3), x.cook(4, 3)), 3, 2, 1, 0);
        CHECK.dueRow("work(1 to 3, 0)", row(x.work(1, 0), x.work(2, 0), x.work(3, 0)), 3, 2, 1);

        CHECK.about("step 5: what a later cook's turn ends, an earlier one meets a minute later");
        x = new PromiseKitchen();
        x.cooks(3);
        x.task(4, 4, 9);
        x.nested(2, 0, 0, 1);
        x.nested(2, 0, 0, 2);
        x.run(6);
        // cook 1 has 3, cook 2 has 2, cook 3 has 1; at 4 cook 1 still WAITS when its turn comes, at 5 it is RESUMED
        CHECK.dueLog(x, row(0, 3, 1), row(0, 2, 1), row(0, 1, 1), row(1, 2, 5), row(1, 3, 5), row(4, 1, 3), row(4, 2, 6),
                row(4, 2, 3), row(5, 3, 6), row(5, 3, 3));
        CHECK.dueFailures(x, 3, row(12, 3, -4, 0), row(12, 2, 0, 1), row(9, 1, 1, 1));
    }

    private static void turnIsOverThoughNoneWasTaken() {
        CHECK.about("step 5: its turn is over, whether it took one or not: what is READY behind that, it takes a minute later");
        PromiseKitchen x = new PromiseKitchen();
        x.cooks(3);
        x.task(3, 4, 9);
        x.nested(2, 0, 0, 1);
        x.always(2, 9, 0, 0);
        x.always(2, 9, 0, 0);
        x.always(2, 9, 0, 0);
        x.task(1, 0, 0);
        x.run(5);
        // cook 1 has nothing from 1 on; at 3, behind its turn, cook 2 is RESUMED with 2: 3, 5 and 7 become READY
        CHECK.dueLog(x, row(0, 9, 1), row(0, 2, 1), row(0, 1, 1), row(1, 2, 5), row(1, 9, 2), row(3, 1, 3), row(3, 2, 6),
                row(3, 2, 3), row(3, 7, 1), row(3, 5, 1), row(4, 3, 1));
        CHECK.dueRow("work(3, 5, 7; 0), cook(1, 1)", row(x.work(3, 0), x.work(5, 0), x.work(7, 0), x.cook(1, 1)), 1, 3, 2, 3);
    }

    private static void cooksFromNowOn() {
        CHECK.about("promise 2: n cooks from now on, fewer or more than before");
        PromiseKitchen x = new PromiseKitchen();
        x.cooks(3);
        x.cooks(1);
        for (int s = 1; s <= 4; s++) {
            x.task(1, 0, 0);
        }
        x.run(1);
        CHECK.dueRow("states with one cook", Check.states(x, 1, 2, 3, 4), 1, 1, 1, 2);
        x.run(3);
        CHECK.dueRow("states", Check.states(x, 1, 2, 3, 4), 1, 2, 5, 5);
        x.run(5);
        x.cooks(2);
        x.task(1, 0, 0);
        x.task(1, 0, 0);
        x.run(6);
        CHECK.dueRow("states with two", Check.states(x, 5, 6), 2, 2);
    }
}
