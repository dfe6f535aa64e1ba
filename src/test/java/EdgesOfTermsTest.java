/** The sentences of the Terms that name a border, a test for each; about() quotes the sentence. */
public final class EdgesOfTermsTest {
    private static final int LEAST = Integer.MIN_VALUE;
    private static final int MOST = Integer.MAX_VALUE;
    private static final Check CHECK = new Check();

    /** For each KIND those that it is UNDER, written out. */
    private static final int[][] UNDER = {{0}, {1, 0}, {2, 0}, {3, 1, 0}, {4, 1, 0}, {5, 2, 0}, {6, 2, 0}, {7, 3, 1, 0},
        {8, 3, 1, 0}, {9, 4, 1, 0}, {10, 4, 1, 0}, {11, 5, 2, 0}, {12, 5, 2, 0}, {13, 6, 2, 0}, {14, 6, 2, 0},
        {15, 7, 3, 1, 0}};

    public static void main(String[] args) {
        callsOfOneObject();
        numbersOfWorksWrap();
        numbersOfOthersWrap();
        numbersFromOne();
        namedTwice();
        treatedMinutes();
        endsOnce();
        placesFromOne();
        kindsUnder();
        passingKinds();
        neitherCauseNorSuppressed();
        workingsFromOne();
        failingFunction();
        planLookedAt();
        quotients();
        greaterAndLesser();
        firstWithoutAValue();
        enoughForAny();
        tooFewForAny();
        failureOfAny();
        onFailureAtTheBorder();
        closingWorkWhoseInputHadEnded();
        closingWorkHeldTillThen();
        endsOfAlways();
        dueMinute();
        duesAtTheBorder();
        duesOnce();
        longestChainOfDues();
        interrupted();
        stillOverWhenTheirTurnComes();
        partsOfNested();
        sumsOfNested();
        workingsOfRetry();
        noneReady();
        noneToHelpWith();
        hangsOnEachNumber();
        deepestPile();
        tiesOfReadyMinutes();
        refusalsInOrder();
        CHECK.finish();
    }

    private static int[] row(int... cells) {
        return cells;
    }

    private static void callsOfOneObject() {
        CHECK.about("An object is used for at most 512 calls: the last of them answers, too");
        PromiseKitchen x = new PromiseKitchen();
        int calls = 0;
        for (int s = 1; s <= 199; s++, calls++) {
            x.value(-s);
        }
        CHECK.due("task(60, 1, 4)", x.task(60, 1, 4), 200);
        calls++;
        for (int minute = 400; minute <= 10000; minute += 400, calls++) {
            CHECK.due("run(" + minute + ")", x.run(minute), minute);
        }
        for (int s = 1; s <= 199; s++, calls++) {
            CHECK.due("answer(" + s + ")", x.answer(s), -s);
        }
        for (int i = 0; calls < 511; i++, calls++) {
            CHECK.due("log(" + i + ", 1)", x.log(i, 1), i + 1);
        }
        CHECK.due("answer(200), call " + (calls + 1), x.answer(200), 5);
    }

    private static void numbersOfWorksWrap() {
        CHECK.about("NUMBERS are of 32 bits and wrap: the works' functions");
        PromiseKitchen x = new PromiseKitchen();
        x.run(1);
        x.value(MOST);
        x.task(1, 1, MOST);
        x.task(1, 2, LEAST);
        x.task(1, 3, MOST);
        x.nested(2, 0, 1, 1);
        x.retry(1, 3, MOST, 1, 1);
        x.plan(6, 1, 1);
        // 6 works 1-2 and is READY again at 3, 5 works 2-4, 4 works 4-5, 3 works 5-6, 2 works 6-7, 6 works 7-8
        x.run(9);
        CHECK.dueRow("answer(2 to 6)", row(x.answer(2), x.answer(3), x.answer(4), x.answer(5), x.answer(6)),
                LEAST, LEAST + 5, LEAST + 3, LEAST, -2 + 7);
        CHECK.dueRow("their ends", row(x.end(2, 0), x.end(3, 0), x.end(4, 0), x.end(5, 0), x.end(6, 0)), 7, 6, 5, 4, 8);
    }

    private static void numbersOfOthersWrap() {
        CHECK.about("NUMBERS are of 32 bits and wrap: the other stages' RULES");
        PromiseKitchen x = new PromiseKitchen();
        x.value(MOST);
        x.value(LEAST);
        x.value(1);
        CHECK.due("then(1, 0, 1)", x.answer(x.then(1, 0, 1)), LEAST);
        CHECK.due("then(2, 0, -1)", x.answer(x.then(2, 0, -1)), MOST);
        CHECK.due("then(2, 1, 1)", x.answer(x.then(2, 1, 1)), MOST);
        CHECK.due("then(1, 1, -1)", x.answer(x.then(1, 1, -1)), LEAST);
        CHECK.due("then(1, 2, 2)", x.answer(x.then(1, 2, 2)), -2);
        CHECK.due("then(2, 2, -1)", x.answer(x.then(2, 2, -1)), LEAST);
        CHECK.due("then(2, 3, MIN)", x.answer(x.then(2, 3, LEAST)), 0);
        CHECK.due("then(2, 4, -1)", x.answer(x.then(2, 4, -1)), LEAST);
        CHECK.due("both(1, 3, 0)", x.answer(x.both(1, 3, 0)), LEAST);
        CHECK.due("both(2, 3, 1)", x.answer(x.both(2, 3, 1)), MOST);
        CHECK.due("both(1, 1, 4)", x.answer(x.both(1, 1, 4)), 1);
        CHECK.due("both(2, 2, 4)", x.answer(x.both(2, 2, 4)), 0);
        CHECK.due("all(1, 3)", x.answer(x.all(1, 3)), 0);
        x.value(MOST);
        x.value(MOST);
        CHECK.due("all(17, 2)", x.answer(x.all(17, 2)), -2);
    }

    private static void numbersFromOne() {
        CHECK.about("STAGES are numbered from 1 in the order in which they are made; refused ones have no number");
        PromiseKitchen x = new PromiseKitchen();
        CHECK.dueRow("task(0, 0, 0), value(7), failed(16), then(1, 0, 0), always(1, 1, 0, 0), value(8)",
                row(x.task(0, 0, 0), x.value(7), x.failed(16), x.then(1, 0, 0), x.always(1, 1, 0, 0), x.value(8)),
                -1, 1, -1, 2, 4, 5);
        CHECK.dueRow("answer(1), answer(5)", row(x.answer(1), x.answer(5)), 7, 8);
    }

    private static void namedTwice() {
        CHECK.about("a stage that is named twice is one INPUT");
        PromiseKitchen x = new PromiseKitchen();
        x.task(9, 4, 8);
        x.both(1, 1, 0);
        CHECK.due("served(1)", x.served(1), 1);
        x.first(1, 1);
        CHECK.due("served(1)", x.served(1), 2);
        x.onFailure(1, 3, 1);
        CHECK.due("served(1)", x.served(1), 3);
        x.always(1, 1, 0, 0);
        CHECK.due("served(1): of the CLOSING WORK, too", x.served(1), 5);
        x.callOff(2, 0);
        x.callOff(3, 0);
        x.run(1);
        CHECK.due("served(1)", x.served(1), 3);
        x.run(10);
        CHECK.dueFailures(x, 4, row(8, 1, -4, 0));
        CHECK.due("served(1): 5 and 6 have not ended", x.served(1), 2);
        x.run(11);
        CHECK.due("served(1)", x.served(1), 0);

        x = new PromiseKitchen();
        x.task(9, 0, 1);
        x.both(1, 1, 0);
        x.callOff(2, 0);
        x.run(1);
        CHECK.due("state(1): its only one was called off", x.state(1), 7);
        CHECK.dueLog(x, row(0, 2, 4), row(0, 1, 4));
    }

    private static void treatedMinutes() {
        CHECK.about("NOW is the minute, 0 at first; minutes below NOW have been TREATED");
        PromiseKitchen x = new PromiseKitchen();
        x.task(1, 0, 5);
        CHECK.dueRow("now(), state(1)", row(x.now(), x.state(1)), 0, 1);
        x.run(1);
        CHECK.dueRow("now(), state(1): minute 0 is TREATED, 1 is not", row(x.now(), x.state(1)), 1, 2);
        x.run(2);
        CHECK.dueRow("now(), state(1), end(1, 0)", row(x.now(), x.state(1), x.end(1, 0)), 2, 5, 1);
    }

    private static void endsOnce() {
        CHECK.about("A stage ENDS once");
        PromiseKitchen x = new PromiseKitchen();
        x.cooks(2);
        x.task(2, 0, 5);
        x.task(4, 0, 6);
        x.first(1, 2);
        x.limit(1, 3);
        x.callOff(1, 3);
        x.callOff(3, 3);
        x.run(6);
        CHECK.dueLog(x, row(0, 2, 1), row(0, 1, 1), row(2, 1, 2), row(2, 3, 2), row(2, 4, 2), row(4, 2, 2));
        CHECK.dueRow("answer(1, 3, 4)", row(x.answer(1), x.answer(3), x.answer(4)), 5, 5, 5);
    }

    private static void placesFromOne() {
        CHECK.about("its PLACE is how many ends there were till then, its own counted");
        PromiseKitchen x = new PromiseKitchen();
        x.task(2, 0, 5);
        x.value(0);
        x.then(1, 0, 0);
        x.failed(0);
        CHECK.dueEnd(x, 2, 0, 1);
        CHECK.dueEnd(x, 4, 0, 2);
        x.run(3);
        CHECK.dueEnd(x, 1, 2, 3);
        CHECK.dueEnd(x, 3, 2, 4);
    }

    private static void kindsUnder() {
        CHECK.about("a kind is UNDER itself, the one above it, the one above that, and so on");
        for (int kind = 0; kind <= 15; kind++) {
            PromiseKitchen x = new PromiseKitchen();
            x.value(77);
            x.failed(kind);
            for (int k = 0; k <= 15; k++) {
                boolean isUnder = false;
                for (int above : UNDER[kind]) {
                    isUnder = isUnder || above == k;
                }
                CHECK.due("onFailure(2, " + k + ", 1) of a failure of KIND " + kind, x.state(x.onFailure(2, k, 1)),
                        isUnder ? 5 : 6);
            }
        }
    }

    private static void passingKinds() {
        CHECK.about("Kinds UNDER 1 are PASSING");
        int[] passing = {0, 1, 0, 1, 1, 0, 0, 1, 1, 1, 1, 0, 0, 0, 0, 1};
        for (int kind = 0; kind <= 15; kind++) {
            PromiseKitchen x = new PromiseKitchen();
            x.retry(1, 4, kind, 1, 9);
            x.run(2);
            CHECK.dueRow("state(1), work(1, 3) after a failure of KIND " + kind, row(x.state(1), x.work(1, 3)),
                    passing[kind] == 1 ? 4 : 6, passing[kind]);
        }
    }

    private static void neitherCauseNorSuppressed() {
        CHECK.about("Where nothing else is told, a FAILURE has neither a CAUSE nor SUPPRESSED ones");
        PromiseKitchen x = new PromiseKitchen();
        x.value(1);
        x.failed(3);
        x.task(1, 4, 7);
        x.task(1, 0, 7);
        x.plan(4, 1, 9);
        x.then(1, 4, 0);
        x.nested(2, 4, 6, 1);
        x.retry(1, 4, 1, 0, 1);
        x.task(60, 0, 0);
        x.limit(8, 1);
        x.run(9);
        CHECK.dueFailures(x, 2, row(3, 2, -4, 0));
        CHECK.dueFailures(x, 3, row(7, 3, -4, 0));
        CHECK.dueFailures(x, 4, row(9, 4, -4, 0));
        CHECK.dueFailures(x, 5, row(6, 5, -4, 0));
        CHECK.dueFailures(x, 6, row(6, 6, -4, 0));
        CHECK.dueFailures(x, 7, row(1, 7, -4, 0));
        CHECK.dueFailures(x, 9, row(5, 9, -4, 0));
    }

    private static void workingsFromOne() {
        CHECK.about("w (which WORKING of it this is, from 1 on) and b (the minute at which this WORKING began)");
        PromiseKitchen x = new PromiseKitchen();
        x.cooks(4);
        x.retry(2, 0, 100, 1, 3);
        x.retry(2, 1, 100, 1, 3);
        x.retry(2, 2, 100, 1, 3);
        x.retry(2, 3, 100, 1, 3);
        x.run(3);
        CHECK.dueRow("answers of the first WORKINGS, begun at 0", row(x.answer(1), x.answer(2), x.answer(3), x.answer(4)),
                100, 101, 100, 100);
        for (int s = 5; s <= 8; s++) {
            x.retry(2, s - 5, 100, 1, 3);
            x.plan(s, 1, 1);
        }
        x.run(12);
        // begun at 3, over at 5, READY and begun again at 8, over at 10
        CHECK.dueRow("answers of the second WORKINGS, begun at 8", row(x.answer(5), x.answer(6), x.answer(7), x.answer(8)),
                100, 102, 100 ^ 8, 208);
    }

    private static void failingFunction() {
        CHECK.about("A WORKING of kind 4 fails with the KIND a & 15 AT this stage");
        int[][] kinds = {{0, 0}, {15, 15}, {16, 0}, {17, 1}, {-1, 15}, {-16, 0}, {LEAST, 0}, {MOST, 15}};
        for (int[] k : kinds) {
            PromiseKitchen x = new PromiseKitchen();
            x.value(0);
            x.task(1, 4, k[0]);
            x.run(2);
            CHECK.dueRow("state(2), failure(2, 0, 0 and 1) of a = " + k[0],
                    row(x.state(2), x.failure(2, 0, 0), x.failure(2, 0, 1)), 6, k[1], 2);
        }
    }

    private static void planLookedAt() {
        CHECK.about("THE PLAN is looked at when the WORKING is done; it fails whatever its kind");
        PromiseKitchen x = new PromiseKitchen();
        x.cooks(4);
        x.task(3, 4, 9);
        x.task(3, 0, 5);
        x.task(3, 0, 5);
        x.value(1);
        x.nested(3, 0, 5, 4);
        x.plan(3, 1, 2);
        x.run(3);
        x.clearPlan();
        x.plan(1, 1, 0);
        x.plan(2, 1, 15);
        x.plan(2, 2, 14);
        x.plan(5, 1, 11);
        x.run(4);
        CHECK.dueRow("ends", row(x.end(1, 0), x.end(2, 0), x.end(3, 0), x.end(5, 0)), 3, 3, 3, 3);
        CHECK.dueFailures(x, 1, row(0, 1, -4, 0));
        CHECK.dueFailures(x, 2, row(15, 2, -4, 0));
        CHECK.due("answer(3): its plan went before it was done", x.answer(3), 5);
        CHECK.dueFailures(x, 5, row(11, 5, -4, 0));
    }

    private static void quotients() {
        CHECK.about("4: the greatest whole number not above v / a (wrapping); with a = 0 it FAILS, KIND 6 AT this stage");
        int[][] due = {{6, 3, 2}, {7, 3, 2}, {8, 3, 2}, {-6, 3, -2}, {-7, 3, -3}, {-8, 3, -3}, {6, -3, -2}, {7, -3, -3},
            {-7, -3, 2}, {-6, -3, 2}, {0, 5, 0}, {0, -5, 0}, {1, MOST, 0}, {-1, MOST, -1}, {LEAST, -1, LEAST},
            {LEAST, 1, LEAST}, {LEAST, LEAST, 1}, {MOST, LEAST, -1}, {LEAST, MOST, -2}, {MOST, -1, -MOST}};
        for (int[] d : due) {
            PromiseKitchen x = new PromiseKitchen();
            x.value(d[0]);
            CHECK.due("then(1, 4, " + d[1] + ") of " + d[0], x.answer(x.then(1, 4, d[1])), d[2]);
        }
        for (int v : row(0, 1, LEAST)) {
            PromiseKitchen x = new PromiseKitchen();
            x.value(v);
            x.then(1, 4, 0);
            CHECK.dueFailures(x, 2, row(6, 2, -4, 0));
        }
        PromiseKitchen x = new PromiseKitchen();
        x.failed(9);
        x.then(1, 4, 0);
        CHECK.dueFailures(x, 2, row(9, 1, -4, 0));
        x.value(5);
        CHECK.dueRow("a = 0 of the other kinds", row(x.answer(x.then(3, 0, 0)), x.answer(x.then(3, 1, 0)),
                x.answer(x.then(3, 2, 0)), x.answer(x.then(3, 3, 0))), 5, 5, 0, 5);
    }

    private static void greaterAndLesser() {
        CHECK.about("both: 2: the greater. 3: the lesser (numbers whose difference wraps, equal ones)");
        PromiseKitchen x = new PromiseKitchen();
        x.value(MOST);
        x.value(LEAST);
        x.value(-1);
        x.value(-1);
        CHECK.dueRow("the greater of 1 and 2", row(x.answer(x.both(1, 2, 2)), x.answer(x.both(2, 1, 2))), MOST, MOST);
        CHECK.dueRow("the lesser of 1 and 2", row(x.answer(x.both(1, 2, 3)), x.answer(x.both(2, 1, 3))), LEAST, LEAST);
        CHECK.dueRow("of equal ones", row(x.answer(x.both(3, 4, 2)), x.answer(x.both(3, 4, 3))), -1, -1);
    }

    private static void firstWithoutAValue() {
        CHECK.about("both, all: when one ended without a value, though the others have not ended; the lowest PLACE");
        PromiseKitchen x = new PromiseKitchen();
        x.task(9, 0, 1);
        x.failed(9);
        x.failed(3);
        x.both(1, 3, 0);
        x.both(3, 2, 0);
        x.all(1, 2);
        x.all(1, 3);
        CHECK.dueRow("states", Check.states(x, 1, 4, 5, 6, 7), 1, 6, 6, 6, 6);
        CHECK.dueFailures(x, 4, row(3, 3, -4, 0));
        CHECK.dueFailures(x, 5, row(9, 2, -4, 0));
        CHECK.dueFailures(x, 7, row(9, 2, -4, 0));
        x.value(4);
        CHECK.dueRow("with a value and one not ended", Check.states(x, x.both(8, 1, 0), x.first(8, 1)), 0, 5);
    }

    private static void enoughForAny() {
        CHECK.about("any: when n have values: with the value of the n-th of them by PLACE");
        PromiseKitchen x = new PromiseKitchen();
        x.cooks(3);
        x.task(3, 0, 30);
        x.task(1, 0, 10);
        x.task(2, 0, 20);
        x.any(1, 3, 1);
        x.any(1, 3, 2);
        x.any(1, 3, 3);
        x.run(2);
        CHECK.dueRow("states with one value", Check.states(x, 4, 5, 6), 5, 0, 0);
        x.run(3);
        CHECK.dueRow("states with two", Check.states(x, 4, 5, 6), 5, 5, 0);
        x.run(4);
        CHECK.dueRow("answer(4 to 6)", row(x.answer(4), x.answer(5), x.answer(6)), 10, 20, 30);
        CHECK.dueRow("any() of ended ones", row(x.answer(x.any(1, 3, 1)), x.answer(x.any(1, 3, 2)),
                x.answer(x.any(1, 3, 3))), 10, 20, 30);
    }

    private static void tooFewForAny() {
        CHECK.about("any: when more than count - n ended without a value");
        PromiseKitchen x = new PromiseKitchen();
        x.task(60, 0, 1);
        x.failed(3);
        x.failed(4);
        x.value(9);
        CHECK.dueRow("2 of 4 lost, n = 2 and 3", Check.states(x, x.any(1, 4, 2), x.any(1, 4, 3)), 0, 6);
        CHECK.dueRow("1 of 2 lost, n = 1 and 2", Check.states(x, x.any(1, 2, 1), x.any(1, 2, 2)), 0, 6);
        CHECK.dueRow("none of 1 lost, n = 1", Check.states(x, x.any(1, 1, 1)), 0);
        CHECK.dueRow("all lost, n = 1", Check.states(x, x.any(2, 2, 1)), 6);
        x.run(61);
        CHECK.due("answer(5): 9 has the lower PLACE", x.answer(5), 1);
        CHECK.due("answer(7)", x.answer(7), 1);
    }

    private static void failureOfAny() {
        CHECK.about("any: the CAUSE is the FAILED one with the highest PLACE, SUPPRESSED the others; if none: CALLED OFF");
        PromiseKitchen x = new PromiseKitchen();
        x.task(60, 0, 1);
        x.task(60, 0, 1);
        x.failed(7);
        x.any(1, 2, 1);
        x.any(1, 3, 1);
        x.any(3, 1, 1);
        x.callOff(1, 0);
        x.callOff(2, 0);
        x.run(1);
        CHECK.dueRow("states", Check.states(x, 4, 5, 6), 7, 6, 6);
        CHECK.dueFailures(x, 5, row(2, 5, -4, 0), row(7, 3, 0, 1));
        CHECK.dueFailures(x, 6, row(2, 6, -4, 0), row(7, 3, 0, 1));

        x = new PromiseKitchen();
        for (int s = 1; s <= 24; s++) {
            x.failed(s % 16);
        }
        x.any(1, 24, 24);
        int[][] due = new int[25][];
        due[0] = row(2, 25, -4, 0);
        due[1] = row(24 % 16, 24, 0, 1);
        for (int s = 1; s <= 23; s++) {
            due[s + 1] = row(s % 16, s, 0, 2);
        }
        CHECK.dueFailures(x, 25, due);
    }

    private static void onFailureAtTheBorder() {
        CHECK.about("onFailure: AS s, though the other has not ended; AS other, when that has ended");
        PromiseKitchen x = new PromiseKitchen();
        x.task(2, 0, 5);
        x.value(6);
        x.failed(7);
        x.task(60, 0, 0);
        x.callOff(4, 0);
        x.run(1);
        CHECK.dueRow("states", Check.states(x, x.onFailure(3, 7, 1), x.onFailure(2, 0, 1), x.onFailure(4, 0, 1),
                x.onFailure(3, 8, 1), x.onFailure(3, 7, 3), x.onFailure(3, 7, 4)), 0, 5, 7, 6, 6, 7);
        CHECK.due("state(1): it serves 5", x.state(1), 2);
        x.run(3);
        CHECK.due("answer(5)", x.answer(5), 5);
    }

    private static void closingWorkWhoseInputHadEnded() {
        CHECK.about("A work is READY from the minute NOW at which it was made (a CLOSING WORK too, whose INPUT had ended)");
        PromiseKitchen x = new PromiseKitchen();
        x.value(1);
        x.failed(1);
        x.task(60, 0, 0);
        x.callOff(3, 0);
        x.run(1);
        x.always(1, 1, 0, 0);
        x.always(2, 1, 0, 0);
        x.always(3, 1, 0, 0);
        x.task(60, 0, 0);
        x.always(10, 1, 0, 0);
        CHECK.dueRow("CLOSING WORKS of a value, FAILED, CALLED OFF, and of one that has not ended",
                Check.states(x, 4, 6, 8, 11), 1, 1, 1, 0);
        CHECK.dueRow("their stages", Check.states(x, 5, 7, 9, 12), 0, 0, 0, 0);
    }

    private static void closingWorkHeldTillThen() {
        CHECK.about("c is HELD till s ends, whatever way, and READY from that minute on");
        // how s ends: by its function, 0 a value, 4 FAILED; or CALLED OFF
        int[][] ways = {{0, 10000, 5}, {4, 10000, 6}, {0, 3, 7}};
        for (int[] way : ways) {
            PromiseKitchen x = new PromiseKitchen();
            x.cooks(2);
            x.task(60, 0, 0);
            x.task(3, way[0], 9);
            x.always(2, 1, 0, 0);
            x.callOff(2, way[1]);
            x.run(3);
            CHECK.dueRow("states a minute before its end", Check.states(x, 2, 3, 4), 2, 0, 0);
            x.run(4);
            CHECK.dueRow("states, its cook took the CLOSING WORK", Check.states(x, 2, 3, 4), way[2], 2, 0);
            x.run(5);
            CHECK.dueRow("states", Check.states(x, 3, 4), 5, way[2]);
            CHECK.dueRow("end(3 and 4, 0)", row(x.end(3, 0), x.end(4, 0)), 4, 4);
        }
    }

    private static void endsOfAlways() {
        CHECK.about("always: each end of s with each end of its CLOSING WORK");
        // s: 1 a value, 2 FAILED, 3 CALLED OFF; c: 0 a value, 4 FAILED, 7 CALLED OFF
        int[][] due = {{1, 0, 5}, {1, 4, 6}, {1, 7, 5}, {2, 0, 6}, {2, 4, 6}, {2, 7, 6}, {3, 0, 7}, {3, 4, 7}, {3, 7, 7}};
        for (int[] d : due) {
            PromiseKitchen x = new PromiseKitchen();
            x.value(10);
            x.failed(4);
            x.task(60, 0, 0);
            x.callOff(3, 0);
            x.run(1);
            x.always(d[0], 1, d[1] == 7 ? 0 : d[1], 9);
            x.callOff(4, d[1] == 7 ? 1 : 10000);
            x.run(3);
            CHECK.due("state(5) of s " + d[0] + " and c " + d[1], x.state(5), d[2]);
            if (d[2] == 5) {
                CHECK.due("answer(5), that of s", x.answer(5), 10);
            } else if (d[2] == 6 && d[0] == 1) {
                CHECK.dueFailures(x, 5, row(9, 4, -4, 0));
            } else if (d[2] == 6 && d[1] == 4) {
                CHECK.dueFailures(x, 5, row(4, 5, -4, 0), row(4, 2, 0, 1), row(9, 4, 0, 2));
            } else if (d[2] == 6) {
                CHECK.dueFailures(x, 5, row(4, 2, -4, 0));
            }
        }
        CHECK.about("always: its CLOSING WORK is CALLED OFF while it is HELD");
        PromiseKitchen x = new PromiseKitchen();
        x.task(3, 0, 10);
        x.always(1, 1, 0, 0);
        x.callOff(2, 1);
        x.run(3);
        CHECK.dueRow("states, s has not ended", Check.states(x, 1, 2, 3), 2, 7, 0);
        x.run(4);
        CHECK.dueRow("answer(3), end(3, 0)", row(x.answer(3), x.end(3, 0)), 10, 3);
    }

    private static void dueMinute() {
        CHECK.about("limit: when s has ended: AS s. Else at its DUE minute (the minute when it was made + minutes)");
        int[][] due = {{4, 6, 4}, {5, 5, 5}, {6, 5, 5}};
        for (int[] d : due) {
            PromiseKitchen x = new PromiseKitchen();
            x.run(7);
            x.task(5, 0, 1);
            x.limit(1, d[0]);
            x.run(20);
            CHECK.dueRow("state(2), end(2, 0) of a limit of " + d[0], row(x.state(2), x.end(2, 0)), d[1], 7 + d[2]);
        }
        PromiseKitchen x = new PromiseKitchen();
        x.cooks(2);
        x.task(3, 4, 9);
        x.nested(2, 0, 0, 1);
        x.limit(2, 3);
        x.then(2, 0, 0);
        x.run(4);
        // 2 is RESUMED in step 5 of minute 3, behind the limits of that minute
        CHECK.dueFailures(x, 3, row(5, 3, -4, 0));
        CHECK.dueFailures(x, 2, row(12, 2, -4, 0), row(9, 1, 0, 1));
        CHECK.dueRow("PLACES of 1 to 4", row(x.end(1, 1), x.end(2, 1), x.end(3, 1), x.end(4, 1)), 1, 3, 2, 4);
    }

    private static void duesAtTheBorder() {
        CHECK.about("DUES: each INPUT that has not ended and that no stage which has not ended has as an INPUT");
        PromiseKitchen x = new PromiseKitchen();
        x.task(60, 0, 0);
        x.task(60, 0, 0);
        x.task(60, 0, 0);
        x.value(1);
        x.all(1, 4);
        x.then(2, 0, 0);
        x.nested(2, 0, 0, 3);
        x.limit(5, 2);
        x.run(2);
        CHECK.dueRow("states", Check.states(x, 1, 2, 3, 4, 5), 1, 1, 2, 5, 0);
        x.run(3);
        CHECK.dueRow("states at the DUE minute: 2 and 3 serve others", Check.states(x, 1, 2, 3, 4, 5, 8), 7, 1, 2, 5, 7, 6);
        CHECK.due("work(1, 2): no cook had it", x.work(1, 2), 0);
        x.callOff(6, 3);
        x.callOff(7, 3);
        x.run(4);
        CHECK.dueRow("states", Check.states(x, 2, 3, 6, 7), 7, 7, 7, 7);

        x = new PromiseKitchen();
        x.task(60, 0, 0);
        x.limit(1, 9);
        x.failed(2);
        x.both(1, 3, 0);
        x.any(1, 1, 1);
        x.first(1, 3);
        x.callOff(2, 1);
        x.callOff(5, 1);
        x.run(1);
        CHECK.dueRow("a FAILED one that is no limit has no DUES", Check.states(x, 1, 4, 6), 2, 6, 6);
        x.run(2);
        CHECK.dueRow("states: behind 2, 5 has 1 as an INPUT; behind 5 none", Check.states(x, 1, 2, 5), 7, 7, 7);
        CHECK.dueLog(x, row(0, 3, 3), row(0, 4, 3), row(0, 6, 3), row(0, 1, 1), row(1, 2, 4), row(1, 5, 4), row(1, 1, 4));
    }

    private static void duesOnce() {
        CHECK.about("DUES: of each stage that ended CALLED OFF since the last DUES");
        PromiseKitchen x = new PromiseKitchen();
        x.cooks(3);
        x.task(60, 0, 0);
        x.task(2, 0, 0);
        x.then(1, 0, 0);
        x.first(1, 2);
        x.task(60, 0, 0);
        x.callOff(3, 1);
        x.callOff(5, 4);
        x.run(5);
        // 4 had 1 as an INPUT at the DUES of 3; when 4 has ended, at those of 5, it is not 3's turn again
        CHECK.dueRow("states", Check.states(x, 1, 2, 3, 4, 5), 2, 5, 7, 5, 7);
    }

    private static void longestChainOfDues() {
        CHECK.about("DUES: what ended CALLED OFF by that has its turn behind those that are there: 200 in a row");
        PromiseKitchen x = new PromiseKitchen();
        x.task(60, 0, 0);
        for (int s = 2; s <= 200; s++) {
            x.then(s - 1, 0, 0);
        }
        x.callOff(200, 0);
        x.run(1);
        for (int s = 1; s <= 200; s += 199) {
            CHECK.dueEnd(x, s, 0, 201 - s);
            CHECK.due("state(" + s + ")", x.state(s), 7);
        }
        CHECK.dueRow("log(0 and 199, 1), log(200, 1), cook(1, 3)", row(x.log(0, 1), x.log(199, 1), x.log(200, 1),
                x.cook(1, 3)), 200, 1, -1, 0);
    }

    private static void interrupted() {
        CHECK.about("A WORK that ends CALLED OFF while a cook has it is INTERRUPTED, and taken from that cook");
        PromiseKitchen x = new PromiseKitchen();
        x.cooks(2);
        x.value(0);
        x.task(60, 0, 0);
        x.nested(2, 0, 0, 2);
        x.retry(1, 4, 1, 1, 30);
        x.run(3);
        // 4 0-1 by cook 1, then PAUSES; 3 by cook 2, WAITS at 1; 2 by cook 1 at 1
        CHECK.dueRow("states", Check.states(x, 2, 3, 4), 2, 3, 4);
        x.task(60, 0, 0);
        x.always(2, 1, 0, 0);
        CHECK.dueRow("states", Check.states(x, 5, 6), 1, 0);
        for (int s = 2; s <= 6; s++) {
            x.callOff(s, 3);
        }
        x.run(4);
        CHECK.dueRow("states", Check.states(x, 2, 3, 4, 5, 6), 7, 7, 7, 7, 7);
        CHECK.dueRow("at work, WAITS, PAUSES, READY, HELD", row(x.work(2, 2), x.work(3, 2), x.work(4, 2), x.work(5, 2),
                x.work(6, 2)), 1, 1, 0, 0, 0);
        CHECK.dueRow("piles", row(x.cook(1, 2), x.cook(2, 2)), 0, 0);
    }

    private static void stillOverWhenTheirTurnComes() {
        CHECK.about("Step 2: those that are so when this begins and still are when their turn comes");
        PromiseKitchen x = new PromiseKitchen();
        x.cooks(3);
        x.task(9, 0, 0);
        x.nested(6, 0, 0, 1);
        x.task(3, 0, 0);
        x.both(2, 3, 0);
        x.callOff(1, 3);
        x.run(4);
        CHECK.dueLog(x, row(0, 3, 1), row(0, 2, 1), row(0, 1, 1), row(3, 1, 4), row(3, 2, 4), row(3, 4, 4), row(3, 3, 4));

        x = new PromiseKitchen();
        x.cooks(3);
        x.task(3, 0, 0);
        x.task(9, 0, 0);
        x.nested(6, 0, 0, 2);
        x.both(1, 3, 0);
        x.callOff(2, 3);
        x.run(4);
        CHECK.dueLog(x, row(0, 3, 1), row(0, 2, 1), row(0, 1, 1), row(3, 2, 4), row(3, 1, 2), row(3, 3, 4), row(3, 4, 4));
    }

    private static void partsOfNested() {
        CHECK.about("nested(): first part minutes / 2, second part the rest, from the minute when it begins");
        int[][] parts = {{2, 1, 1}, {3, 1, 2}, {4, 2, 2}, {59, 29, 30}, {60, 30, 30}};
        for (int[] part : parts) {
            PromiseKitchen x = new PromiseKitchen();
            x.cooks(2);
            x.task(40, 0, 5);
            x.nested(part[0], 0, 6, 1);
            x.run(100);
            CHECK.dueLog(x, row(0, 2, 1), row(0, 1, 1), row(part[1], 2, 5), row(40, 1, 2), row(40, 2, 6),
                    row(40 + part[2], 2, 2));
            x = new PromiseKitchen();
            x.value(5);
            x.nested(part[0], 0, 6, 1);
            x.run(100);
            CHECK.dueLog(x, row(0, 1, 2), row(0, 2, 1), row(part[0], 2, 2));
        }
        CHECK.about("nested(): its INPUT ends in the very minute at which the first part is over");
        PromiseKitchen x = new PromiseKitchen();
        x.cooks(2);
        x.task(2, 0, 5);
        x.nested(4, 0, 6, 1);
        x.run(9);
        CHECK.dueLog(x, row(0, 2, 1), row(0, 1, 1), row(2, 1, 2), row(4, 2, 2));
    }

    private static void sumsOfNested() {
        CHECK.about("nested() ends with its function's value + its INPUT's value");
        int[] due = {10 - 1000, 10 + 1 - 1000, (10 ^ 7) - 1000, 10 + 7 - 1000};
        for (int kind = 0; kind <= 3; kind++) {
            PromiseKitchen x = new PromiseKitchen();
            x.value(-1000);
            x.run(7);
            x.nested(2, kind, 10, 1);
            x.run(10);
            CHECK.due("answer(2) of kind " + kind + ", begun at 7", x.answer(2), due[kind]);
        }
    }

    private static void workingsOfRetry() {
        CHECK.about("retry(): when this is not the (times + 1)-th WORKING: it PAUSES, twice as long each time again");
        int[] ends = {1, 3, 6, 11, 20, 37};
        int[] pauses = {2, 5, 10, 19, 36};
        for (int times = 0; times <= 5; times++) {
            PromiseKitchen x = new PromiseKitchen();
            x.retry(1, 4, 3, times, 1);
            x.run(60);
            CHECK.dueRow("work(1, 1), work(1, 3), end(1, 0) of times " + times,
                    row(x.work(1, 1), x.work(1, 3), x.end(1, 0)), times + 1, times, ends[times]);
            int[][] due = new int[times + 1][];
            due[0] = row(3, 1, -4, 0);
            for (int i = 1; i <= times; i++) {
                CHECK.due("pause(1, " + i + ")", x.pause(1, i), pauses[i - 1]);
                due[i] = row(3, 1, 0, 2);
            }
            CHECK.dueFailures(x, 1, due);
        }
        CHECK.about("retry(): the earlier ones SUPPRESSED in their order; a failure that is not PASSING ends it");
        PromiseKitchen x = new PromiseKitchen();
        x.retry(1, 0, 0, 5, 1);
        x.plan(1, 1, 10);
        x.plan(1, 2, 1);
        x.plan(1, 3, 15);
        x.plan(1, 4, 11);
        x.run(60);
        CHECK.dueFailures(x, 1, row(11, 1, -4, 0), row(10, 1, 0, 2), row(1, 1, 0, 2), row(15, 1, 0, 2));
    }

    private static void noneReady() {
        CHECK.about("Step 5: its pile is empty: it takes the READY work, if there is one; its turn is over");
        PromiseKitchen x = new PromiseKitchen();
        x.cooks(2);
        x.run(2);
        x.task(1, 0, 0);
        x.run(3);
        CHECK.dueRow("cook(1 and 2, 1 to 3)", row(x.cook(1, 1), x.cook(1, 2), x.cook(1, 3), x.cook(2, 1), x.cook(2, 2),
                x.cook(2, 3)), 2, 1, 1, 3, 0, 0);
        x.run(4);
        CHECK.dueRow("cook(1 and 2, 0 and 1)", row(x.cook(1, 0), x.cook(1, 1), x.cook(2, 0), x.cook(2, 1)), 0, 3, 0, 4);
    }

    private static void noneToHelpWith() {
        CHECK.about("Step 5: of the READY works that this INPUT HANGS ON, if there is one: it HELPS");
        PromiseKitchen x = new PromiseKitchen();
        x.task(60, 0, 0);
        x.retry(1, 4, 1, 1, 5);
        x.then(2, 0, 0);
        x.nested(2, 0, 0, 3);
        x.run(2);
        CHECK.dueRow("cook(1, 0 to 3): it helps with what the INPUT's INPUT is", row(x.cook(1, 0), x.cook(1, 1),
                x.cook(1, 2), x.cook(1, 3)), 1, 0, 2, 2);
        x.run(7);
        CHECK.dueRow("cook(1, 0 to 3): 2 PAUSES, 1 is READY but no help", row(x.cook(1, 0), x.cook(1, 1), x.cook(1, 2),
                x.cook(1, 3)), 1, 5, 1, 4);
        x.run(8);
        CHECK.dueRow("cook(1, 0 to 3): 2 is READY again", row(x.cook(1, 0), x.cook(1, 1), x.cook(1, 2), x.cook(1, 3)),
                2, 5, 2, 2);
        x.run(9);
        CHECK.dueRow("states: all FAILED at 8, and 1 is taken then", Check.states(x, 1, 2, 3, 4), 2, 6, 6, 6);
        CHECK.due("end(4, 0)", x.end(4, 0), 8);
    }

    private static void hangsOnEachNumber() {
        CHECK.about("A stage HANGS ON itself, its INPUTS, theirs, and so on: the one of each number, and no other");
        for (int s = 1; s <= 198; s++) {
            PromiseKitchen x = new PromiseKitchen();
            for (int made = 1; made <= 198; made++) {
                x.task(1, 0, 0);
            }
            x.then(s, 0, 0);
            x.nested(2, 0, 0, s % 2 == 0 ? s : 199);
            x.run(2);
            CHECK.dueRow("cook(1, 0), cook(1, 3) that waits for what hangs on " + s + " alone",
                    row(x.cook(1, 0), x.cook(1, 3)), 1, s);
            x.run(3);
            CHECK.dueRow("cook(1, 2), cook(1, 3), RESUMED", row(x.cook(1, 2), x.cook(1, 3)), 1, 200);
        }
    }

    private static void deepestPile() {
        CHECK.about("A cook has WORKS in a pile: 200 of them, and all of them end in one turn");
        PromiseKitchen x = new PromiseKitchen();
        x.task(1, 4, 9);
        for (int s = 2; s <= 200; s++) {
            x.nested(2, 0, 0, s - 1);
        }
        x.run(199);
        CHECK.dueRow("cook(1, 0, 2, 3)", row(x.cook(1, 0), x.cook(1, 2), x.cook(1, 3)), 198, 199, 2);
        x.run(200);
        CHECK.dueRow("cook(1, 0 to 3)", row(x.cook(1, 0), x.cook(1, 1), x.cook(1, 2), x.cook(1, 3)), 199, 0, 200, 1);
        x.run(201);
        CHECK.dueRow("cook(1, 0 to 3)", row(x.cook(1, 0), x.cook(1, 1), x.cook(1, 2), x.cook(1, 3)), 199, 1, 0, 0);
        CHECK.dueEnd(x, 1, 200, 1);
        CHECK.dueEnd(x, 200, 200, 200);
        CHECK.dueRow("failure(200, 0, ..)", Check.failure(x, 200, 0), 12, 200, -4, 0);
        CHECK.dueRow("failure(200, 199, ..)", Check.failure(x, 200, 199), 9, 1, 198, 1);
        CHECK.dueThrow("failure(200, 200, 0)", IndexOutOfBoundsException.class, () -> x.failure(200, 200, 0));
    }

    private static void tiesOfReadyMinutes() {
        CHECK.about("the lowest READY minute, of those the highest number; a CLOSING WORK's is that of its INPUT's end");
        PromiseKitchen x = new PromiseKitchen();
        x.cooks(2);
        x.task(2, 0, 0);
        x.task(60, 0, 0);
        x.always(1, 1, 0, 0);
        x.run(1);
        x.task(1, 0, 0);
        x.run(2);
        x.task(1, 0, 0);
        x.run(5);
        // 5 is READY at 1, 3 and 6 at 2: cook 1 has 2, cook 2 has 1 till 2, then 5, 6, 3
        CHECK.dueLog(x, row(0, 2, 1), row(0, 1, 1), row(2, 1, 2), row(2, 5, 1), row(3, 5, 2), row(3, 6, 1), row(4, 6, 2),
                row(4, 3, 1));

        CHECK.about("the end of a pause is a READY minute, too");
        x = new PromiseKitchen();
        x.retry(1, 4, 1, 1, 1);
        x.task(1, 0, 0);
        x.retry(1, 4, 1, 1, 1);
        x.task(4, 0, 0);
        x.run(1);
        x.callOff(4, 4);
        x.run(9);
        // 4 0-4, called off; 3 4-5, 2 5-6, 1 6-7; 3 is READY again at 6, 1 at 8
        CHECK.dueLog(x, row(0, 4, 1), row(4, 4, 4), row(4, 3, 1), row(5, 3, 7), row(5, 2, 1), row(6, 2, 2), row(6, 1, 1),
                row(7, 1, 7), row(7, 3, 1), row(8, 3, 3), row(8, 1, 1));
    }

    private static void refusalsInOrder() {
        CHECK.about("Where two of them hold, the one told first here: BAD ahead of FULL, BAD ahead of BUSY");
        Refusals full = new Refusals(CHECK, Kitchens::full);
        full.answered("task(61, 0, 0), FULL, too", x -> x.task(61, 0, 0), -1);
        full.answered("task(60, 0, 0)", x -> x.task(60, 0, 0), -2);
        full.answered("cooks(13), BUSY, too", x -> x.cooks(13), -1);
        full.answered("cooks(12)", x -> x.cooks(12), -3);
        Refusals planned = new Refusals(CHECK, Kitchens::plannedFull);
        planned.answered("plan(11, 7, 0), FULL, too", x -> x.plan(11, 7, 0), -1);
        planned.answered("plan(11, 6, 0)", x -> x.plan(11, 6, 0), -2);
    }
}
