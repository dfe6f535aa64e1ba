import java.util.ArrayList;
import java.util.Arrays;

/**
 * A banquet kitchen of promises: stages that end with a value, fail with causes or are called off.
 * The document's words (STAGE, INPUT, PLACE, DUES ..) are used in the names and comments as it means them.
 */
public final class PromiseKitchen {
    private static final int BAD = -1;
    private static final int FULL = -2;
    private static final int BUSY = -3;
    private static final int NOT_ENDED = -3;

    private static final int MOST_STAGES = 200;
    private static final int MOST_COOKS = 12;
    private static final int MOST_PLANS = 64;
    private static final int MOST_WORKINGS = 6;
    private static final int MOST_IN_GROUP = 24;
    private static final int MOST_MINUTES_OF_WORK = 60;
    private static final int MOST_MINUTES_OF_LIMIT = 400;
    private static final int MOST_MINUTES_OF_RUN = 400;
    private static final int MOST_TIMES = 5;
    private static final int MOST_PAUSE = 30;
    private static final int LAST_MINUTE = 10000;
    private static final int LAST_FUNCTION = 4;
    private static final int FAILING_FUNCTION = 4;

    private static final int LAST_KIND = 15;
    private static final int KIND_PASSING = 1;
    private static final int KIND_TOO_FEW = 2;
    private static final int KIND_OVERDUE = 5;
    private static final int KIND_DIVISION = 6;
    private static final int KIND_OF_INPUT = 12;
    private static final int NO_KIND = -1;

    /** The states are numbered as state() answers them: what is VALUE or above has ended. */
    private static final int HELD = 0; // of a stage that is no work: not ended
    private static final int READY = 1;
    private static final int AT_WORK = 2;
    private static final int WAITS = 3;
    private static final int PAUSES = 4;
    private static final int VALUE = 5;
    private static final int FAILED = 6;
    private static final int CALLED_OFF = 7;

    private static final int EVENT_TAKEN = 1;
    private static final int EVENT_WAITS = 5;
    private static final int EVENT_RESUMED = 6;
    private static final int EVENT_PAUSES = 7;
    /** The events 2, 3, 4 are the states VALUE, FAILED, CALLED_OFF less this. */
    private static final int STATE_ABOVE_EVENT = 3;

    private static final int FORM_GIVEN = 0;
    private static final int FORM_TASK = 1;
    private static final int FORM_RETRY = 2;
    private static final int FORM_NESTED = 3;
    private static final int FORM_CLOSING = 4;
    private static final int FORM_THEN = 5;
    private static final int FORM_BOTH = 6;
    private static final int FORM_FIRST = 7;
    private static final int FORM_ALL = 8;
    private static final int FORM_ANY = 9;
    private static final int FORM_ON_FAILURE = 10;
    private static final int FORM_ALWAYS = 11;
    private static final int FORM_LIMIT = 12;

    private static final int TIE_NONE = 0;
    private static final int TIE_CAUSE = 1;
    private static final int TIE_SUPPRESSED = 2;
    private static final int PLACE_ABOVE_FIRST = -4;
    /** Far above the failures and ties that 200 stages can have. */
    private static final int MOST_STEPS_OF_WALK = 1000000;

    private final Stage[] made = new Stage[MOST_STAGES];
    private final Cook[] crew = new Cook[MOST_COOKS];
    private final ArrayList<Work> ready = new ArrayList<>();
    private final ArrayList<Stage> dues = new ArrayList<>();
    private final Plan planned = new Plan();
    private final Agenda agenda = new Agenda();
    private final Journal journal = new Journal();
    private int madeCount = 0;
    private int crewSize = 1;
    private int clock = 0;
    private int ends = 0;
    private int walks = 0;

    public PromiseKitchen() {
        for (int i = 0; i < crew.length; i++) {
            crew[i] = new Cook(i + 1);
        }
    }

    public int cooks(int n) {
        if (!isWithin(n, 1, MOST_COOKS)) {
            return BAD;
        }
        for (int i = 0; i < crewSize; i++) {
            if (!crew[i].pile.isEmpty()) {
                return BUSY;
            }
        }
        for (int i = 0; i < n; i++) {
            crew[i].helped = 0;
            crew[i].idle = 0;
        }
        crewSize = n;
        return n;
    }

    public int task(int minutes, int kind, int a) {
        if (!isWork(minutes, 1, kind)) {
            return BAD;
        }
        return openWork(new Work(madeCount + 1, FORM_TASK, inputsOf(), minutes, kind, a));
    }

    public int value(int v) {
        Stage stage = new Stage(madeCount + 1, FORM_GIVEN, inputsOf(), 0, 0);
        stage.gain(v);
        return open(stage);
    }

    public int failed(int k) {
        if (!isWithin(k, 0, LAST_KIND)) {
            return BAD;
        }
        Stage stage = new Stage(madeCount + 1, FORM_GIVEN, inputsOf(), 0, 0);
        stage.fail(new Failure(k, stage.number));
        return open(stage);
    }

    public int then(int s, int kind, int a) {
        Stage input = find(s);
        if (input == null || !isWithin(kind, 0, LAST_FUNCTION)) {
            return BAD;
        }
        return open(new Stage(madeCount + 1, FORM_THEN, inputsOf(input), kind, a));
    }

    public int both(int s, int t, int kind) {
        Stage one = find(s);
        Stage other = find(t);
        if (one == null || other == null || !isWithin(kind, 0, LAST_FUNCTION)) {
            return BAD;
        }
        return open(new Stage(madeCount + 1, FORM_BOTH, inputsOf(one, other), kind, 0));
    }

    public int first(int s, int t) {
        Stage one = find(s);
        Stage other = find(t);
        if (one == null || other == null) {
            return BAD;
        }
        return open(new Stage(madeCount + 1, FORM_FIRST, inputsOf(one, other), 0, 0));
    }

    public int all(int from, int count) {
        if (!isGroup(from, count)) {
            return BAD;
        }
        return open(new Stage(madeCount + 1, FORM_ALL, groupOf(from, count), 0, 0));
    }

    public int any(int from, int count, int n) {
        if (!isGroup(from, count) || !isWithin(n, 1, count)) {
            return BAD;
        }
        return open(new Stage(madeCount + 1, FORM_ANY, groupOf(from, count), 0, n));
    }

    public int onFailure(int s, int k, int other) {
        Stage input = find(s);
        Stage instead = find(other);
        if (input == null || instead == null || !isWithin(k, 0, LAST_KIND)) {
            return BAD;
        }
        return open(new Stage(madeCount + 1, FORM_ON_FAILURE, inputsOf(input, instead), k, 0));
    }

    public int always(int s, int minutes, int kind, int a) {
        Stage input = find(s);
        if (input == null || !isWork(minutes, 1, kind)) {
            return BAD;
        }
        if (madeCount + 2 > MOST_STAGES) {
            return FULL;
        }
        Work closing = new Work(madeCount + 1, FORM_CLOSING, inputsOf(input), minutes, kind, a);
        openWork(closing);
        return open(new Stage(madeCount + 1, FORM_ALWAYS, inputsOf(input, closing), 0, 0));
    }

    public int limit(int s, int minutes) {
        Stage input = find(s);
        if (input == null || !isWithin(minutes, 1, MOST_MINUTES_OF_LIMIT)) {
            return BAD;
        }
        int due = clock + minutes;
        agenda.mark(due);
        return open(new Stage(madeCount + 1, FORM_LIMIT, inputsOf(input), 0, due));
    }

    public int retry(int minutes, int kind, int a, int times, int pause) {
        if (!isWork(minutes, 1, kind) || !isWithin(times, 0, MOST_TIMES) || !isWithin(pause, 1, MOST_PAUSE)) {
            return BAD;
        }
        Work work = new Work(madeCount + 1, FORM_RETRY, inputsOf(), minutes, kind, a);
        work.allowPauses(times, pause);
        return openWork(work);
    }

    public int nested(int minutes, int kind, int a, int s) {
        Stage input = find(s);
        if (input == null || !isWork(minutes, 2, kind)) {
            return BAD;
        }
        return openWork(new Work(madeCount + 1, FORM_NESTED, inputsOf(input), minutes, kind, a));
    }

    public int plan(int work, int time, int k) {
        if (!(find(work) instanceof Work) || !isWithin(time, 1, MOST_WORKINGS) || !isWithin(k, 0, LAST_KIND)) {
            return BAD;
        }
        return planned.put(work, time, k) ? planned.size : FULL;
    }

    public int clearPlan() {
        int had = planned.size;
        planned.size = 0;
        return had;
    }

    public int callOff(int s, int minute) {
        Stage stage = find(s);
        if (stage == null || stage.hasEnded() || !isWithin(minute, clock, LAST_MINUTE)) {
            return BAD;
        }
        stage.callOffMinute = minute;
        agenda.mark(minute);
        return 1;
    }

    public int run(int until) {
        if (!isWithin(until, clock, Math.min(clock + MOST_MINUTES_OF_RUN, LAST_MINUTE))) {
            return BAD;
        }
        for (int minute = clock; minute < until; minute++) {
            if (agenda.isMarked(minute)) {
                callOffTheNamed();
                treatWorksOver();
                failLimitsDue();
                endPauses();
            }
            turnToCooks();
            countIdle();
            clock = minute + 1;
        }
        return until;
    }

    public int now() {
        return clock;
    }

    public int state(int s) {
        Stage stage = find(s);
        return stage == null ? BAD : stage.state;
    }

    public int answer(int s) throws IllegalArgumentException, IllegalStateException {
        Stage stage = find(s);
        if (stage == null) {
            throw new IllegalArgumentException("there is no such stage");
        }
        if (stage.state != VALUE) {
            throw new IllegalStateException("the stage has no value");
        }
        return stage.value;
    }

    public int end(int s, int what) {
        Stage stage = find(s);
        if (stage == null || !isWithin(what, 0, 1)) {
            return BAD;
        }
        if (!stage.hasEnded()) {
            return NOT_ENDED;
        }
        return what == 0 ? stage.endMinute : stage.place;
    }

    public int failure(int s, int i, int what)
            throws IllegalArgumentException, IllegalStateException, IndexOutOfBoundsException {
        Stage stage = find(s);
        if (stage == null || !isWithin(what, 0, 3)) {
            throw new IllegalArgumentException("there is no such stage or what");
        }
        if (stage.failure == null) {
            throw new IllegalStateException("the stage did not fail");
        }
        Failure found = walkTo(stage.failure, i);
        if (found == null) {
            throw new IndexOutOfBoundsException("there is no failure at this place");
        }
        switch (what) {
            case 0:
                return found.kind;
            case 1:
                return found.at;
            case 2:
                return found.by == null ? PLACE_ABOVE_FIRST : found.by.place;
            default:
                return found.tie;
        }
    }

    public int work(int s, int what) {
        if (!(find(s) instanceof Work work)) {
            return BAD;
        }
        switch (what) {
            case 0:
                return work.lastCook;
            case 1:
                return work.workings;
            case 2:
                return work.interrupted ? 1 : 0;
            case 3:
                return work.paused;
            default:
                return BAD;
        }
    }

    public int pause(int s, int i) {
        if (!(find(s) instanceof Work work) || !isWithin(i, 1, work.paused)) {
            return BAD;
        }
        return work.pauseEnds[i - 1];
    }

    public int cook(int c, int what) {
        if (!isWithin(c, 1, crewSize)) {
            return BAD;
        }
        Cook cook = crew[c - 1];
        switch (what) {
            case 0:
                return cook.helped;
            case 1:
                return cook.idle;
            case 2:
                return cook.pile.size();
            case 3:
                Work upmost = cook.upmost();
                return upmost == null ? 0 : upmost.number;
            default:
                return BAD;
        }
    }

    public int served(int s) {
        Stage stage = find(s);
        return stage == null ? BAD : stage.servedBy;
    }

    public int stages() {
        return madeCount;
    }

    public int log(int i, int what) {
        if (!isWithin(i, 0, journal.size - 1) || !isWithin(what, 0, Journal.WIDTH - 1)) {
            return BAD;
        }
        return journal.cells[i * Journal.WIDTH + what];
    }

    private static boolean isWithin(int number, int least, int most) {
        return number >= least && number <= most;
    }

    private static boolean isWork(int minutes, int leastMinutes, int kind) {
        return isWithin(minutes, leastMinutes, MOST_MINUTES_OF_WORK) && isWithin(kind, 0, LAST_FUNCTION);
    }

    /** The count is looked at first, so that the number of the last one can't wrap. */
    private boolean isGroup(int from, int count) {
        return isWithin(count, 1, MOST_IN_GROUP) && find(from) != null && find(from + count - 1) != null;
    }

    /** The stage of this number, null if there is none. */
    private Stage find(int number) {
        return isWithin(number, 1, madeCount) ? made[number - 1] : null;
    }

    private static Stage[] inputsOf() {
        return new Stage[0];
    }

    private static Stage[] inputsOf(Stage one) {
        Stage[] inputs = {one};
        return inputs;
    }

    private static Stage[] inputsOf(Stage one, Stage other) {
        if (one == other) {
            return inputsOf(one);
        }
        Stage[] inputs = {one, other};
        return inputs;
    }

    private Stage[] groupOf(int from, int count) {
        Stage[] inputs = new Stage[count];
        for (int i = 0; i < count; i++) {
            inputs[i] = made[from - 1 + i];
        }
        return inputs;
    }

    /** The number of a new stage that is no work, or FULL. */
    private int open(Stage stage) {
        if (!keep(stage)) {
            return FULL;
        }
        Rules.settle(stage);
        if (stage.hasEnded()) {
            conclude(stage);
        }
        return stage.number;
    }

    /** The number of a new work, or FULL. */
    private int openWork(Work work) {
        if (!keep(work)) {
            return FULL;
        }
        if (work.form != FORM_CLOSING || work.isSetFree()) {
            makeReady(work);
        }
        return work.number;
    }

    /** Whether there was room for it. */
    private boolean keep(Stage stage) {
        if (madeCount >= MOST_STAGES) {
            return false;
        }
        made[madeCount] = stage;
        madeCount++;
        for (Stage input : stage.inputs) {
            input.servedBy++;
        }
        return true;
    }

    private void makeReady(Work work) {
        work.state = READY;
        work.readyMinute = clock;
        ready.add(work);
    }

    /** What a stage's end brings about, and DUES; the stage has its value, failure or calling off already. */
    private void conclude(Stage first) {
        noteEnd(first);
        for (int i = first.number; i < madeCount; i++) {
            Stage asked = made[i];
            if (asked instanceof Work held) {
                if (held.isSetFree()) {
                    makeReady(held);
                }
            } else if (!asked.hasEnded()) {
                Rules.settle(asked);
                if (asked.hasEnded()) {
                    noteEnd(asked);
                }
            }
        }
        payDues();
    }

    private void noteEnd(Stage stage) {
        ends++;
        stage.place = ends;
        stage.endMinute = clock;
        journal.enter(clock, stage.number, stage.state - STATE_ABOVE_EVENT);
        for (Stage input : stage.inputs) {
            input.servedBy--;
        }
        if (stage instanceof Work work) {
            release(work);
        }
        if (stage.state == CALLED_OFF) {
            dues.add(stage);
        }
    }

    /** Whoever has it or could take it has it no more; its state tells already why. */
    private void release(Work work) {
        dropFrom(ready, work);
        if (work.holder != null) {
            work.interrupted = work.state == CALLED_OFF;
            dropFrom(work.holder.pile, work);
            work.holder = null;
        }
    }

    private static void dropFrom(ArrayList<Work> works, Work gone) {
        for (int i = works.size() - 1; i >= 0; i--) {
            if (works.get(i) == gone) {
                works.remove(i);
                return;
            }
        }
    }

    /**
     * What is called off here serves nothing that has not ended, so its end brings about no other one: it is
     * only noted, which puts it behind those whose turn is still to come.
     */
    private void payDues() {
        for (int i = 0; i < MOST_STAGES && i < dues.size(); i++) {
            for (Stage input : dues.get(i).inputs) {
                if (!input.hasEnded() && input.servedBy == 0) {
                    input.dismiss();
                    noteEnd(input);
                }
            }
        }
        dues.clear();
    }

    private void callOffTheNamed() {
        for (int i = 0; i < madeCount; i++) {
            Stage stage = made[i];
            if (stage.callOffMinute == clock && !stage.hasEnded()) {
                stage.dismiss();
                conclude(stage);
            }
        }
    }

    private void treatWorksOver() {
        for (int i = 0; i < madeCount; i++) {
            if (made[i] instanceof Work work && work.state == AT_WORK && work.overMinute == clock) {
                if (work.inFirstPart) {
                    meetInput(work);
                } else {
                    finishWorking(work);
                }
                if (work.hasEnded()) {
                    conclude(work);
                }
            }
        }
    }

    /** The first part of a nested work is over: it goes on as its input has ended, or waits for that. */
    private void meetInput(Work work) {
        Stage input = work.firstInput();
        if (input.state == VALUE) {
            work.beginSecondPart(clock);
            agenda.mark(work.overMinute);
        } else if (input.state == FAILED) {
            work.fail(new Failure(KIND_OF_INPUT, work.number, input.failure, new Failure[0]));
        } else if (input.state == CALLED_OFF) {
            work.dismiss();
        } else {
            work.state = WAITS;
            journal.enter(clock, work.number, EVENT_WAITS);
        }
    }

    private void finishWorking(Work work) {
        int kind = planned.kindFor(work.number, work.workings);
        if (kind == NO_KIND && work.kind == FAILING_FUNCTION) {
            kind = work.amount & LAST_KIND;
        }
        if (kind == NO_KIND) {
            work.gain(work.result());
        } else if (Failure.isUnder(kind, KIND_PASSING) && work.mayPause()) {
            work.beginPause(clock, new Failure(kind, work.number));
            agenda.mark(work.overMinute);
            release(work);
            journal.enter(clock, work.number, EVENT_PAUSES);
        } else {
            work.fail(new Failure(kind, work.number, null, work.earlierFailures()));
        }
    }

    private void failLimitsDue() {
        for (int i = 0; i < madeCount; i++) {
            Stage stage = made[i];
            if (stage.form == FORM_LIMIT && stage.amount == clock && !stage.hasEnded()) {
                stage.fail(new Failure(KIND_OVERDUE, stage.number));
                dues.add(stage);
                conclude(stage);
            }
        }
    }

    private void endPauses() {
        for (int i = 0; i < madeCount; i++) {
            if (made[i] instanceof Work work && work.state == PAUSES && work.overMinute == clock) {
                makeReady(work);
            }
        }
    }

    private void turnToCooks() {
        for (int i = 0; i < crewSize; i++) {
            boolean over = false;
            for (int act = 0; act <= MOST_STAGES && !over; act++) {
                Work ended = resumeOrTake(crew[i]);
                if (ended == null) {
                    over = true;
                } else {
                    conclude(ended);
                }
            }
        }
    }

    /** The work that ended by being resumed; null when the cook's turn is over. */
    private Work resumeOrTake(Cook cook) {
        Work upmost = cook.upmost();
        if (upmost == null) {
            take(cook, choose(null));
            return null;
        }
        if (upmost.state != WAITS) {
            return null;
        }
        Stage awaited = upmost.firstInput();
        if (awaited.hasEnded()) {
            journal.enter(clock, upmost.number, EVENT_RESUMED);
            meetInput(upmost);
            return upmost.hasEnded() ? upmost : null;
        }
        Work help = choose(awaited);
        if (help != null) {
            cook.helped++;
            take(cook, help);
        }
        return null;
    }

    /** Of the READY works (that the awaited stage hangs on, if one is given) the next to be taken, or null. */
    private Work choose(Stage awaited) {
        Work best = null;
        for (int i = 0; i < ready.size(); i++) {
            Work work = ready.get(i);
            if ((awaited == null || awaited.hangsOn(work)) && (best == null || work.comesAheadOf(best))) {
                best = work;
            }
        }
        return best;
    }

    private void take(Cook cook, Work work) {
        if (work == null) {
            return;
        }
        dropFrom(ready, work);
        cook.pile.add(work);
        work.holder = cook;
        work.lastCook = cook.number;
        work.beginWorking(clock);
        agenda.mark(work.overMinute);
        journal.enter(clock, work.number, EVENT_TAKEN);
    }

    private void countIdle() {
        for (int i = 0; i < crewSize; i++) {
            Work upmost = crew[i].upmost();
            if (upmost == null || upmost.state == WAITS) {
                crew[i].idle++;
            }
        }
    }

    /**
     * The i-th failure of the tree, null if there is none. It goes along the failures themselves instead of
     * calling itself, as a chain of causes may be as long as there are stages.
     */
    private Failure walkTo(Failure root, int i) {
        walks++;
        root.stand(walks, 0, null, TIE_NONE);
        int stood = 1;
        Failure newest = root;
        Failure here = root;
        for (int step = 0; step < MOST_STEPS_OF_WALK && here != null && newest.place != i; step++) {
            if (here.turn > here.suppressed.length) {
                here = here.by;
            } else {
                int tie = here.turn == 0 ? TIE_CAUSE : TIE_SUPPRESSED;
                Failure part = here.turn == 0 ? here.cause : here.suppressed[here.turn - 1];
                here.turn++;
                if (part != null && part.walk != walks) {
                    part.stand(walks, stood, here, tie);
                    stood++;
                    newest = part;
                    here = part;
                }
            }
        }
        return newest.place == i ? newest : null;
    }

    /** Shared by all the stages that end as one another; its place in a tree is that of the last walk. */
    private static final class Failure {
        final int kind;
        final int at;
        final Failure cause;
        final Failure[] suppressed;
        int walk = 0;
        int place = 0;
        int tie = TIE_NONE;
        /** Which of its own is looked at next: 0 the cause, then the suppressed ones from 1 on. */
        int turn = 0;
        Failure by = null;

        Failure(int kind, int at) {
            this(kind, at, null, new Failure[0]);
        }

        Failure(int kind, int at, Failure cause, Failure[] suppressed) {
            this.kind = kind;
            this.at = at;
            this.cause = cause;
            this.suppressed = suppressed;
        }

        static boolean isUnder(int kind, int above) {
            int next = kind;
            while (next > above && next > 0) {
                next = (next - 1) / 2;
            }
            return next == above;
        }

        void stand(int walk, int place, Failure by, int tie) {
            this.walk = walk;
            this.place = place;
            this.by = by;
            this.tie = tie;
            turn = 0;
        }
    }

    private static class Stage {
        private static final int BITS = 64;
        private static final int NEVER = -1;

        final int number;
        final int form;
        final Stage[] inputs;
        /** The kind of the function; of onFailure() the KIND of failure. */
        final int kind;
        /** The function's a; of any() its n; of limit() its DUE minute. */
        final int amount;
        /** A bit for each stage that this one HANGS ON. */
        private final long[] hangs = new long[MOST_STAGES / BITS + 1];
        int state = HELD;
        int value = 0;
        Failure failure = null;
        int endMinute = 0;
        int place = 0;
        int callOffMinute = NEVER;
        /** How many stages that have not ended have this one as an INPUT. */
        int servedBy = 0;

        Stage(int number, int form, Stage[] inputs, int kind, int amount) {
            this.number = number;
            this.form = form;
            this.inputs = inputs;
            this.kind = kind;
            this.amount = amount;
            hangs[number / BITS] |= 1L << (number % BITS);
            for (Stage input : inputs) {
                for (int i = 0; i < hangs.length; i++) {
                    hangs[i] |= input.hangs[i];
                }
            }
        }

        final boolean hangsOn(Stage other) {
            return (hangs[other.number / BITS] >> (other.number % BITS) & 1L) != 0;
        }

        /** One without INPUTS stands in for them itself, so that there always is one to be asked. */
        final Stage firstInput() {
            return inputs.length == 0 ? this : inputs[0];
        }

        final Stage lastInput() {
            return inputs.length == 0 ? this : inputs[inputs.length - 1];
        }

        final boolean hasEnded() {
            return state >= VALUE;
        }

        final void gain(int gained) {
            state = VALUE;
            value = gained;
        }

        final void fail(Failure with) {
            state = FAILED;
            failure = with;
        }

        final void dismiss() {
            state = CALLED_OFF;
        }

        final void endAs(Stage other) {
            state = other.state;
            value = other.value;
            failure = other.failure;
        }
    }

    private static final class Work extends Stage {
        final int minutes;
        int readyMinute = 0;
        /** When the part that is at work, or the pause, is over. */
        int overMinute = 0;
        int begun = 0;
        int workings = 0;
        boolean inFirstPart = false;
        boolean interrupted = false;
        int lastCook = 0;
        Cook holder = null;
        int paused = 0;
        private int pauseMinutes = 0;
        int[] pauseEnds = new int[0];
        private Failure[] earlier = new Failure[0];

        Work(int number, int form, Stage[] inputs, int minutes, int kind, int a) {
            super(number, form, inputs, kind, a);
            this.minutes = minutes;
        }

        void allowPauses(int times, int firstPause) {
            pauseMinutes = firstPause;
            pauseEnds = new int[times];
            earlier = new Failure[times];
        }

        boolean mayPause() {
            return paused < pauseEnds.length && paused < earlier.length;
        }

        void beginPause(int minute, Failure why) {
            if (!mayPause()) {
                return;
            }
            overMinute = minute + (pauseMinutes << paused);
            pauseEnds[paused] = overMinute;
            earlier[paused] = why;
            paused++;
            state = PAUSES;
        }

        Failure[] earlierFailures() {
            Failure[] failures = new Failure[paused];
            for (int i = 0; i < paused; i++) {
                failures[i] = earlier[i];
            }
            return failures;
        }

        void beginWorking(int minute) {
            inFirstPart = form == FORM_NESTED;
            workings++;
            begun = minute;
            overMinute = minute + (inFirstPart ? minutes / 2 : minutes);
            state = AT_WORK;
        }

        void beginSecondPart(int minute) {
            inFirstPart = false;
            overMinute = minute + minutes - minutes / 2;
            state = AT_WORK;
        }

        /** A CLOSING WORK that is HELD though its INPUT has ended. */
        boolean isSetFree() {
            return form == FORM_CLOSING && state == HELD && firstInput().hasEnded();
        }

        boolean comesAheadOf(Work other) {
            return readyMinute == other.readyMinute ? number > other.number : readyMinute < other.readyMinute;
        }

        int result() {
            int inner = form == FORM_NESTED ? firstInput().value : 0;
            switch (kind) {
                case 1:
                    return amount + workings + inner;
                case 2:
                    return (amount ^ begun) + inner;
                case 3:
                    return amount * workings + begun + inner;
                default:
                    return amount + inner;
            }
        }
    }

    private static final class Cook {
        final int number;
        final ArrayList<Work> pile = new ArrayList<>();
        int helped = 0;
        int idle = 0;

        Cook(int number) {
            this.number = number;
        }

        Work upmost() {
            return pile.isEmpty() ? null : pile.get(pile.size() - 1);
        }
    }

    /** THE PLAN, in rows of the length that it may have. */
    private static final class Plan {
        private final int[] works = new int[MOST_PLANS];
        private final int[] times = new int[MOST_PLANS];
        private final int[] kinds = new int[MOST_PLANS];
        int size = 0;

        int kindFor(int work, int time) {
            int row = rowOf(work, time);
            return row < size ? kinds[row] : NO_KIND;
        }

        /** Whether there was room for it. */
        boolean put(int work, int time, int kind) {
            int row = rowOf(work, time);
            if (row >= MOST_PLANS) {
                return false;
            }
            works[row] = work;
            times[row] = time;
            kinds[row] = kind;
            size = Math.max(size, row + 1);
            return true;
        }

        /** The row of this plan, or the one behind the last if there is no such plan. */
        private int rowOf(int work, int time) {
            for (int row = 0; row < size; row++) {
                if (works[row] == work && times[row] == time) {
                    return row;
                }
            }
            return size;
        }
    }

    /**
     * The minutes that something is set for (a calling off, a work's or pause's end, a limit): at most minutes
     * there is nothing, and looking through all stages at each would be the dearest part of a run.
     */
    private static final class Agenda {
        private static final int BITS = 64;

        private final long[] marks = new long[LAST_MINUTE / BITS + 1];

        void mark(int minute) {
            if (isWithin(minute, 0, LAST_MINUTE)) {
                marks[minute / BITS] |= 1L << (minute % BITS);
            }
        }

        boolean isMarked(int minute) {
            return isWithin(minute, 0, LAST_MINUTE) && (marks[minute / BITS] >> (minute % BITS) & 1L) != 0;
        }
    }

    /** THE LOG. It grows as it is needed, as most kitchens log far less than the most that one could. */
    private static final class Journal {
        static final int WIDTH = 3;
        private static final int FIRST_ENTRIES = 64;

        int[] cells = new int[FIRST_ENTRIES * WIDTH];
        int size = 0;

        void enter(int minute, int stage, int event) {
            int from = size * WIDTH;
            if (from + WIDTH > cells.length) {
                cells = Arrays.copyOf(cells, cells.length * 2);
            }
            cells[from] = minute;
            cells[from + 1] = stage;
            cells[from + 2] = event;
            size++;
        }
    }

    /** The RULES of the stages that are no works: each ends its stage if that can end. */
    private static final class Rules {
        static void settle(Stage stage) {
            switch (stage.form) {
                case FORM_THEN:
                    settleThen(stage);
                    break;
                case FORM_BOTH:
                    settleBoth(stage);
                    break;
                case FORM_FIRST:
                case FORM_LIMIT:
                    settleFirst(stage);
                    break;
                case FORM_ALL:
                    settleAll(stage);
                    break;
                case FORM_ANY:
                    settleAny(stage);
                    break;
                case FORM_ON_FAILURE:
                    settleOnFailure(stage);
                    break;
                case FORM_ALWAYS:
                    settleAlways(stage);
                    break;
                default:
                    break;
            }
        }

        private static void settleThen(Stage stage) {
            Stage input = stage.firstInput();
            if (!input.hasEnded()) {
                return;
            }
            if (input.state != VALUE) {
                stage.endAs(input);
            } else if (stage.kind == 4 && stage.amount == 0) {
                stage.fail(new Failure(KIND_DIVISION, stage.number));
            } else {
                stage.gain(changed(input.value, stage.kind, stage.amount));
            }
        }

        private static int changed(int v, int kind, int a) {
            switch (kind) {
                case 0:
                    return v + a;
                case 1:
                    return v - a;
                case 2:
                    return v * a;
                case 3:
                    return v ^ a;
                default:
                    return a == 0 ? 0 : Math.floorDiv(v, a);
            }
        }

        private static void settleBoth(Stage stage) {
            Stage broken = earliest(stage, FAILED);
            if (broken != null) {
                stage.endAs(broken);
            } else if (countOf(stage, VALUE) == stage.inputs.length) {
                stage.gain(joined(stage.firstInput().value, stage.lastInput().value, stage.kind));
            }
        }

        private static int joined(int v, int w, int kind) {
            switch (kind) {
                case 0:
                    return v + w;
                case 1:
                    return v - w;
                case 2:
                    return Math.max(v, w);
                case 3:
                    return Math.min(v, w);
                default:
                    return v * w;
            }
        }

        private static void settleFirst(Stage stage) {
            Stage ended = earliest(stage, VALUE);
            if (ended != null) {
                stage.endAs(ended);
            }
        }

        private static void settleAll(Stage stage) {
            Stage broken = earliest(stage, FAILED);
            if (broken != null) {
                stage.endAs(broken);
            } else if (countOf(stage, VALUE) == stage.inputs.length) {
                int sum = 0;
                for (Stage input : stage.inputs) {
                    sum += input.value;
                }
                stage.gain(sum);
            }
        }

        private static void settleAny(Stage stage) {
            int needed = stage.amount;
            int values = countOf(stage, VALUE);
            int failures = countOf(stage, FAILED);
            int lost = failures + countOf(stage, CALLED_OFF);
            if (values >= needed) {
                stage.endAs(byPlace(stage, VALUE, values)[needed - 1]);
            } else if (lost > stage.inputs.length - needed) {
                if (failures == 0) {
                    stage.dismiss();
                } else {
                    failAny(stage, byPlace(stage, FAILED, failures));
                }
            }
        }

        private static void failAny(Stage stage, Stage[] broken) {
            int last = broken.length - 1;
            Failure[] others = new Failure[last];
            for (int i = 0; i < last; i++) {
                others[i] = broken[i].failure;
            }
            stage.fail(new Failure(KIND_TOO_FEW, stage.number, broken[last].failure, others));
        }

        /** The INPUTS of this state, of which there are so many, by PLACE. */
        private static Stage[] byPlace(Stage stage, int state, int count) {
            Stage[] sorted = new Stage[count];
            int size = 0;
            for (Stage input : stage.inputs) {
                if (input.state == state && size < count) {
                    int at = size;
                    for (; at > 0 && sorted[at - 1].place > input.place; at--) {
                        sorted[at] = sorted[at - 1];
                    }
                    sorted[at] = input;
                    size++;
                }
            }
            return sorted;
        }

        private static void settleOnFailure(Stage stage) {
            Stage input = stage.firstInput();
            Stage instead = stage.lastInput();
            if (!input.hasEnded()) {
                return;
            }
            if (input.failure == null || !Failure.isUnder(input.failure.kind, stage.kind)) {
                stage.endAs(input);
            } else if (instead.hasEnded()) {
                stage.endAs(instead);
            }
        }

        private static void settleAlways(Stage stage) {
            Stage input = stage.firstInput();
            Stage closing = stage.lastInput();
            if (!input.hasEnded() || !closing.hasEnded()) {
                return;
            }
            if (input.state == CALLED_OFF || closing.failure == null) {
                stage.endAs(input);
            } else if (input.failure == null) {
                stage.endAs(closing);
            } else {
                Failure[] suppressed = {closing.failure};
                stage.fail(new Failure(input.failure.kind, stage.number, input.failure, suppressed));
            }
        }

        private static int countOf(Stage stage, int state) {
            int count = 0;
            for (Stage input : stage.inputs) {
                if (input.state == state) {
                    count++;
                }
            }
            return count;
        }

        /** Of the INPUTS whose state is this one or above, the one with the lowest PLACE, or null. */
        private static Stage earliest(Stage stage, int leastState) {
            Stage earliest = null;
            for (Stage input : stage.inputs) {
                if (input.state >= leastState && (earliest == null || input.place < earliest.place)) {
                    earliest = input;
                }
            }
            return earliest;
        }
    }
}
