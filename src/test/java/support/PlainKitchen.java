import java.util.ArrayList;
import java.util.HashSet;
import java.util.LinkedHashSet;
import java.util.List;
import java.util.Set;

/**
 * The document told once more, word for word and without any thought of cost, for the program to be compared
 * with: nothing is counted ahead, every question is answered by looking through all stages.
 */
public final class PlainKitchen {
    private static final class Failure {
        int kind;
        int at;
        Failure cause;
        List<Failure> suppressed = new ArrayList<>();

        Failure(int kind, int at) {
            this.kind = kind;
            this.at = at;
        }
    }

    private static final class Row {
        Failure failure;
        int by;
        int tie;

        Row(Failure failure, int by, int tie) {
            this.failure = failure;
            this.by = by;
            this.tie = tie;
        }
    }

    private static final class Stage {
        int number;
        String form;
        List<Stage> inputs = new ArrayList<>();
        Stage s;
        Stage t;
        int kind;
        int a;
        int minutes;
        int times;
        int pause;
        int madeAt;

        String ended = "";
        int value;
        Failure failure;
        int endMinute;
        int place;
        int namedFor = -1;

        String doing = "";
        int readyMinute;
        int part;
        int partBegan;
        int workingBegan;
        int workings;
        int lastCook;
        boolean interrupted;
        List<Integer> pauses = new ArrayList<>();
        List<Failure> earlier = new ArrayList<>();

        boolean hasEnded() {
            return !ended.isEmpty();
        }

        boolean isWork() {
            return form.equals("task") || form.equals("retry") || form.equals("nested") || form.equals("closing");
        }

        int over() {
            if (!form.equals("nested")) {
                return partBegan + minutes;
            }
            int half = minutes / 2;
            return partBegan + (part == 1 ? half : minutes - half);
        }
    }

    private static final class Cook {
        List<Stage> pile = new ArrayList<>();
        int helped;
        int idle;
    }

    private final List<Stage> stages = new ArrayList<>();
    private List<Cook> cooks = new ArrayList<>(List.of(new Cook()));
    private final List<int[]> plans = new ArrayList<>();
    private final List<int[]> log = new ArrayList<>();
    private final List<Stage> forDues = new ArrayList<>();
    private int now = 0;
    private int ends = 0;

    // ---- making

    public int cooks(int n) {
        if (n < 1 || n > 12) {
            return -1;
        }
        for (Cook cook : cooks) {
            if (cook.pile.size() > 0) {
                return -3;
            }
        }
        cooks = new ArrayList<>();
        for (int i = 0; i < n; i++) {
            cooks.add(new Cook());
        }
        return n;
    }

    private Stage at(int number) {
        return number < 1 || number > stages.size() ? null : stages.get(number - 1);
    }

    private Stage make(String form, Stage... inputs) {
        Stage stage = new Stage();
        stage.number = stages.size() + 1;
        stage.form = form;
        stage.madeAt = now;
        stage.inputs.addAll(new LinkedHashSet<>(List.of(inputs)));
        if (inputs.length > 0) {
            stage.s = inputs[0];
        }
        if (inputs.length > 1) {
            stage.t = inputs[1];
        }
        stages.add(stage);
        return stage;
    }

    private int makeWork(String form, int minutes, int kind, int a, Stage... inputs) {
        Stage work = make(form, inputs);
        work.minutes = minutes;
        work.kind = kind;
        work.a = a;
        if (form.equals("closing") && !work.s.hasEnded()) {
            work.doing = "held";
        } else {
            work.doing = "ready";
            work.readyMinute = now;
        }
        return work.number;
    }

    private int askWhenMade(Stage stage) {
        if (ask(stage)) {
            bringAbout(stage);
            dues();
        }
        return stage.number;
    }

    public int task(int minutes, int kind, int a) {
        if (minutes < 1 || minutes > 60 || kind < 0 || kind > 4) {
            return -1;
        }
        return stages.size() > 199 ? -2 : makeWork("task", minutes, kind, a);
    }

    public int value(int v) {
        if (stages.size() > 199) {
            return -2;
        }
        Stage stage = make("value");
        stage.value = v;
        end(stage, "value");
        return stage.number;
    }

    public int failed(int k) {
        if (k < 0 || k > 15) {
            return -1;
        }
        if (stages.size() > 199) {
            return -2;
        }
        Stage stage = make("failed");
        stage.failure = new Failure(k, stage.number);
        end(stage, "failed");
        return stage.number;
    }

    public int then(int s, int kind, int a) {
        if (at(s) == null || kind < 0 || kind > 4) {
            return -1;
        }
        if (stages.size() > 199) {
            return -2;
        }
        Stage stage = make("then", at(s));
        stage.kind = kind;
        stage.a = a;
        return askWhenMade(stage);
    }

    public int both(int s, int t, int kind) {
        if (at(s) == null || at(t) == null || kind < 0 || kind > 4) {
            return -1;
        }
        if (stages.size() > 199) {
            return -2;
        }
        Stage stage = make("both", at(s), at(t));
        stage.kind = kind;
        return askWhenMade(stage);
    }

    public int first(int s, int t) {
        if (at(s) == null || at(t) == null) {
            return -1;
        }
        return stages.size() > 199 ? -2 : askWhenMade(make("first", at(s), at(t)));
    }

    private Stage[] row(int from, int count) {
        if (count < 1 || count > 24) {
            return null;
        }
        Stage[] row = new Stage[count];
        for (int i = 0; i < count; i++) {
            row[i] = at(from + i);
            if (row[i] == null) {
                return null;
            }
        }
        return row;
    }

    public int all(int from, int count) {
        Stage[] row = row(from, count);
        if (row == null) {
            return -1;
        }
        return stages.size() > 199 ? -2 : askWhenMade(make("all", row));
    }

    public int any(int from, int count, int n) {
        Stage[] row = row(from, count);
        if (row == null || n < 1 || n > count) {
            return -1;
        }
        if (stages.size() > 199) {
            return -2;
        }
        Stage stage = make("any", row);
        stage.a = n;
        return askWhenMade(stage);
    }

    public int onFailure(int s, int k, int other) {
        if (at(s) == null || at(other) == null || k < 0 || k > 15) {
            return -1;
        }
        if (stages.size() > 199) {
            return -2;
        }
        Stage stage = make("onFailure", at(s), at(other));
        stage.kind = k;
        return askWhenMade(stage);
    }

    public int always(int s, int minutes, int kind, int a) {
        if (at(s) == null || minutes < 1 || minutes > 60 || kind < 0 || kind > 4) {
            return -1;
        }
        if (stages.size() > 198) {
            return -2;
        }
        int closing = makeWork("closing", minutes, kind, a, at(s));
        return askWhenMade(make("always", at(s), at(closing)));
    }

    public int limit(int s, int minutes) {
        if (at(s) == null || minutes < 1 || minutes > 400) {
            return -1;
        }
        if (stages.size() > 199) {
            return -2;
        }
        Stage stage = make("limit", at(s));
        stage.minutes = minutes;
        return askWhenMade(stage);
    }

    public int retry(int minutes, int kind, int a, int times, int pause) {
        if (minutes < 1 || minutes > 60 || kind < 0 || kind > 4 || times < 0 || times > 5 || pause < 1 || pause > 30) {
            return -1;
        }
        if (stages.size() > 199) {
            return -2;
        }
        Stage work = at(makeWork("retry", minutes, kind, a));
        work.times = times;
        work.pause = pause;
        return work.number;
    }

    public int nested(int minutes, int kind, int a, int s) {
        if (at(s) == null || minutes < 2 || minutes > 60 || kind < 0 || kind > 4) {
            return -1;
        }
        return stages.size() > 199 ? -2 : makeWork("nested", minutes, kind, a, at(s));
    }

    public int plan(int work, int time, int k) {
        if (at(work) == null || !at(work).isWork() || time < 1 || time > 6 || k < 0 || k > 15) {
            return -1;
        }
        boolean again = plans.removeIf(p -> p[0] == work && p[1] == time);
        if (!again && plans.size() == 64) {
            return -2;
        }
        plans.add(new int[] {work, time, k});
        return plans.size();
    }

    public int clearPlan() {
        int had = plans.size();
        plans.clear();
        return had;
    }

    public int callOff(int s, int minute) {
        if (at(s) == null || at(s).hasEnded() || minute < now || minute > 10000) {
            return -1;
        }
        at(s).namedFor = minute;
        return 1;
    }

    // ---- ends

    private void logs(Stage stage, int event) {
        log.add(new int[] {now, stage.number, event});
    }

    private Cook holderOf(Stage work) {
        for (Cook cook : cooks) {
            if (cook.pile.contains(work)) {
                return cook;
            }
        }
        return null;
    }

    private void end(Stage stage, String how) {
        stage.ended = how;
        stage.endMinute = now;
        ends++;
        stage.place = ends;
        logs(stage, how.equals("value") ? 2 : how.equals("failed") ? 3 : 4);
        Cook holder = holderOf(stage);
        if (holder != null) {
            stage.interrupted = how.equals("off");
            holder.pile.remove(stage);
        }
        stage.doing = "";
        if (how.equals("off")) {
            forDues.add(stage);
        }
    }

    private void endAs(Stage stage, Stage other) {
        stage.value = other.value;
        stage.failure = other.failure;
        end(stage, other.ended);
    }

    private void endWithValue(Stage stage, int value) {
        stage.value = value;
        end(stage, "value");
    }

    private void endFailed(Stage stage, Failure failure) {
        stage.failure = failure;
        end(stage, "failed");
    }

    private void bringAbout(Stage first) {
        for (Stage stage : stages) {
            boolean concerned = false;
            for (Stage input : stage.inputs) {
                concerned = concerned || input.hasEnded();
            }
            if (stage.number > first.number && !stage.hasEnded() && concerned) {
                if (stage.doing.equals("held")) {
                    stage.doing = "ready";
                    stage.readyMinute = now;
                }
                ask(stage);
            }
        }
    }

    private boolean isServing(Stage input) {
        for (Stage stage : stages) {
            if (!stage.hasEnded() && stage.inputs.contains(input)) {
                return true;
            }
        }
        return false;
    }

    private void dues() {
        while (forDues.size() > 0) {
            Stage next = forDues.remove(0);
            for (Stage input : next.inputs) {
                if (!input.hasEnded() && !isServing(input)) {
                    end(input, "off");
                    bringAbout(input);
                }
            }
        }
    }

    /** The acts that end a stage: what comes of it is treated at once. */
    private void act(Stage stage) {
        bringAbout(stage);
        dues();
    }

    // ---- rules

    private static boolean under(int kind, int k) {
        return kind == k || kind > 0 && under((kind - 1) / 2, k);
    }

    private List<Stage> byPlace(Stage stage, String how) {
        List<Stage> found = new ArrayList<>();
        for (Stage input : stage.inputs) {
            if (how.isEmpty() ? input.hasEnded() : how.equals("without") ? input.hasEnded() && !input.ended.equals("value")
                    : input.ended.equals(how)) {
                found.add(input);
            }
        }
        found.sort((x, y) -> Integer.compare(x.place, y.place));
        return found;
    }

    private boolean ask(Stage stage) {
        switch (stage.form) {
            case "then":
                askThen(stage);
                break;
            case "both":
            case "all":
                askBothOrAll(stage);
                break;
            case "first":
            case "limit":
                List<Stage> ended = byPlace(stage, "");
                if (ended.size() > 0) {
                    endAs(stage, ended.get(0));
                }
                break;
            case "any":
                askAny(stage);
                break;
            case "onFailure":
                askOnFailure(stage);
                break;
            case "always":
                askAlways(stage);
                break;
            default:
                break;
        }
        return stage.hasEnded();
    }

    private void askThen(Stage stage) {
        Stage s = stage.s;
        if (!s.hasEnded()) {
            return;
        }
        if (!s.ended.equals("value")) {
            endAs(stage, s);
            return;
        }
        int a = stage.a;
        if (stage.kind == 4 && a == 0) {
            endFailed(stage, new Failure(6, stage.number));
            return;
        }
        long v = s.value;
        long result = 0;
        switch (stage.kind) {
            case 0:
                result = v + a;
                break;
            case 1:
                result = v - a;
                break;
            case 2:
                result = v * a;
                break;
            case 3:
                result = v ^ a;
                break;
            default:
                result = v / a;
                if (result * a != v && (v < 0) != (a < 0)) {
                    result--;
                }
                break;
        }
        endWithValue(stage, (int) result);
    }

    private void askBothOrAll(Stage stage) {
        List<Stage> without = byPlace(stage, "without");
        if (without.size() > 0) {
            endAs(stage, without.get(0));
            return;
        }
        if (byPlace(stage, "value").size() < stage.inputs.size()) {
            return;
        }
        long result = 0;
        if (stage.form.equals("all")) {
            for (Stage input : stage.inputs) {
                result += input.value;
            }
        } else {
            long v = stage.s.value;
            long w = stage.t.value;
            long[] results = {v + w, v - w, v > w ? v : w, v < w ? v : w, v * w};
            result = results[stage.kind];
        }
        endWithValue(stage, (int) result);
    }

    private void askAny(Stage stage) {
        int n = stage.a;
        int count = stage.inputs.size();
        List<Stage> values = byPlace(stage, "value");
        if (values.size() >= n) {
            endWithValue(stage, values.get(n - 1).value);
        } else if (byPlace(stage, "without").size() > count - n) {
            List<Stage> broken = byPlace(stage, "failed");
            if (broken.isEmpty()) {
                end(stage, "off");
            } else {
                Failure failure = new Failure(2, stage.number);
                failure.cause = broken.remove(broken.size() - 1).failure;
                for (Stage other : broken) {
                    failure.suppressed.add(other.failure);
                }
                endFailed(stage, failure);
            }
        }
    }

    private void askOnFailure(Stage stage) {
        Stage s = stage.s;
        if (s.hasEnded()) {
            if (!s.ended.equals("failed") || !under(s.failure.kind, stage.kind)) {
                endAs(stage, s);
            } else if (stage.t.hasEnded()) {
                endAs(stage, stage.t);
            }
        }
    }

    private void askAlways(Stage stage) {
        Stage s = stage.s;
        Stage c = stage.t;
        if (!s.hasEnded() || !c.hasEnded()) {
            return;
        }
        boolean closingFailed = c.ended.equals("failed");
        if (s.ended.equals("off")) {
            end(stage, "off");
        } else if (s.ended.equals("value")) {
            endAs(stage, closingFailed ? c : s);
        } else if (closingFailed) {
            Failure failure = new Failure(s.failure.kind, stage.number);
            failure.cause = s.failure;
            failure.suppressed.add(c.failure);
            endFailed(stage, failure);
        } else {
            endAs(stage, s);
        }
    }

    // ---- minutes

    public int run(int until) {
        if (until < now || until > now + 400 || until > 10000) {
            return -1;
        }
        while (now < until) {
            treat();
            now++;
        }
        return until;
    }

    private void treat() {
        for (Stage stage : stages) {
            if (stage.namedFor == now && !stage.hasEnded()) {
                end(stage, "off");
                act(stage);
            }
        }
        List<Stage> over = new ArrayList<>();
        for (Stage stage : stages) {
            if (stage.doing.equals("at work") && stage.over() == now) {
                over.add(stage);
            }
        }
        for (Stage work : over) {
            if (work.doing.equals("at work") && work.over() == now) {
                timeIsOver(work);
            }
        }
        for (Stage stage : stages) {
            if (stage.form.equals("limit") && !stage.hasEnded() && stage.madeAt + stage.minutes == now) {
                endFailed(stage, new Failure(5, stage.number));
                forDues.add(stage);
                act(stage);
            }
        }
        for (Stage stage : stages) {
            if (stage.doing.equals("pauses") && stage.pauses.get(stage.pauses.size() - 1) == now) {
                stage.doing = "ready";
                stage.readyMinute = now;
            }
        }
        for (int c = 1; c <= cooks.size(); c++) {
            boolean goesOn = true;
            while (goesOn) {
                goesOn = cookActs(c);
            }
        }
        for (Cook cook : cooks) {
            if (cook.pile.isEmpty() || cook.pile.get(cook.pile.size() - 1).doing.equals("waits")) {
                cook.idle++;
            }
        }
    }

    private void timeIsOver(Stage work) {
        if (work.form.equals("nested") && work.part == 1) {
            if (!work.s.hasEnded()) {
                work.doing = "waits";
                logs(work, 5);
            } else {
                goesOnAfterFirstPart(work);
            }
            return;
        }
        int fails = work.kind == 4 ? work.a & 15 : -1;
        for (int[] plan : plans) {
            if (plan[0] == work.number && plan[1] == work.workings) {
                fails = plan[2];
            }
        }
        if (fails < 0) {
            int w = work.workings;
            int b = work.workingBegan;
            int[] results = {work.a, work.a + w, work.a ^ b, work.a * w + b};
            endWithValue(work, results[work.kind] + (work.form.equals("nested") ? work.s.value : 0));
            act(work);
            return;
        }
        Failure failure = new Failure(fails, work.number);
        if (work.form.equals("retry") && under(fails, 1) && work.workings != work.times + 1) {
            int length = work.pause;
            for (int i = 0; i < work.pauses.size(); i++) {
                length = 2 * length;
            }
            work.pauses.add(now + length);
            work.earlier.add(failure);
            work.doing = "pauses";
            holderOf(work).pile.remove(work);
            logs(work, 7);
        } else {
            failure.suppressed.addAll(work.earlier);
            endFailed(work, failure);
            act(work);
        }
    }

    private void goesOnAfterFirstPart(Stage work) {
        if (work.s.ended.equals("value")) {
            work.doing = "at work";
            work.part = 2;
            work.partBegan = now;
        } else if (work.s.ended.equals("failed")) {
            Failure failure = new Failure(12, work.number);
            failure.cause = work.s.failure;
            endFailed(work, failure);
            act(work);
        } else {
            end(work, "off");
            act(work);
        }
    }

    private boolean cookActs(int c) {
        Cook cook = cooks.get(c - 1);
        if (cook.pile.isEmpty()) {
            Stage next = nextReady(null);
            if (next != null) {
                take(c, next);
            }
            return false;
        }
        Stage upmost = cook.pile.get(cook.pile.size() - 1);
        if (upmost.doing.equals("waits")) {
            if (!upmost.s.hasEnded()) {
                Stage help = nextReady(upmost.s);
                if (help != null) {
                    cook.helped++;
                    take(c, help);
                }
                return false;
            }
            logs(upmost, 6);
            goesOnAfterFirstPart(upmost);
            return upmost.hasEnded();
        }
        return false;
    }

    private static void gather(Stage stage, Set<Stage> into) {
        if (into.add(stage)) {
            for (Stage input : stage.inputs) {
                gather(input, into);
            }
        }
    }

    private Stage nextReady(Stage awaited) {
        Set<Stage> hangsOn = new HashSet<>();
        if (awaited != null) {
            gather(awaited, hangsOn);
        }
        Stage next = null;
        for (Stage stage : stages) {
            if (stage.doing.equals("ready") && (awaited == null || hangsOn.contains(stage))
                    && (next == null || stage.readyMinute <= next.readyMinute)) {
                next = stage;
            }
        }
        return next;
    }

    private void take(int c, Stage work) {
        cooks.get(c - 1).pile.add(work);
        work.lastCook = c;
        work.workings++;
        work.workingBegan = now;
        work.part = 1;
        work.partBegan = now;
        work.doing = "at work";
        logs(work, 1);
    }

    // ---- questions

    public int now() {
        return now;
    }

    public int state(int s) {
        Stage stage = at(s);
        if (stage == null) {
            return -1;
        }
        String is = stage.hasEnded() ? stage.ended : stage.doing;
        int found = List.of("ready", "at work", "waits", "pauses", "value", "failed", "off").indexOf(is);
        return found + 1;
    }

    public int answer(int s) {
        if (at(s) == null) {
            throw new IllegalArgumentException();
        }
        if (!at(s).ended.equals("value")) {
            throw new IllegalStateException();
        }
        return at(s).value;
    }

    public int end(int s, int what) {
        if (at(s) == null || what < 0 || what > 1) {
            return -1;
        }
        if (!at(s).hasEnded()) {
            return -3;
        }
        return what == 0 ? at(s).endMinute : at(s).place;
    }

    private void unfold(Failure failure, int by, int tie, List<Row> into) {
        for (Row row : into) {
            if (row.failure == failure) {
                return;
            }
        }
        int place = into.size();
        into.add(new Row(failure, by, tie));
        if (failure.cause != null) {
            unfold(failure.cause, place, 1, into);
        }
        for (Failure suppressed : failure.suppressed) {
            unfold(suppressed, place, 2, into);
        }
    }

    public int failure(int s, int i, int what) {
        if (at(s) == null || what < 0 || what > 3) {
            throw new IllegalArgumentException();
        }
        if (!at(s).ended.equals("failed")) {
            throw new IllegalStateException();
        }
        List<Row> tree = new ArrayList<>();
        unfold(at(s).failure, -4, 0, tree);
        if (i < 0 || i >= tree.size()) {
            throw new IndexOutOfBoundsException();
        }
        Row row = tree.get(i);
        return new int[] {row.failure.kind, row.failure.at, row.by, row.tie}[what];
    }

    public int work(int s, int what) {
        if (at(s) == null || !at(s).isWork() || what < 0 || what > 3) {
            return -1;
        }
        Stage work = at(s);
        return new int[] {work.lastCook, work.workings, work.interrupted ? 1 : 0, work.pauses.size()}[what];
    }

    public int pause(int s, int i) {
        if (at(s) == null || i < 1 || i > at(s).pauses.size()) {
            return -1;
        }
        return at(s).pauses.get(i - 1);
    }

    public int cook(int c, int what) {
        if (c < 1 || c > cooks.size() || what < 0 || what > 3) {
            return -1;
        }
        Cook cook = cooks.get(c - 1);
        int size = cook.pile.size();
        return new int[] {cook.helped, cook.idle, size, size == 0 ? 0 : cook.pile.get(size - 1).number}[what];
    }

    public int served(int s) {
        if (at(s) == null) {
            return -1;
        }
        int count = 0;
        for (Stage stage : stages) {
            if (!stage.hasEnded() && stage.inputs.contains(at(s))) {
                count++;
            }
        }
        return count;
    }

    public int stages() {
        return stages.size();
    }

    public int log(int i, int what) {
        if (i < 0 || i >= log.size() || what < 0 || what > 2) {
            return -1;
        }
        return log.get(i)[what];
    }
}
