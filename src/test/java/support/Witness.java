import java.util.ArrayList;
import java.util.List;
import java.util.function.Consumer;
import java.util.function.ToIntFunction;

/**
 * All that can be asked of a kitchen, a line for each question. An object is good for 512 calls alone, so the
 * kitchen is given as a recipe (of at most 400 calls) and made anew for every hundred questions.
 */
final class Witness {
    private static final int QUESTIONS_OF_ONE = 100;
    private static final int MOST_COOKS = 12;

    private final Consumer<PromiseKitchen> recipe;
    private final List<String> told = new ArrayList<>();
    private PromiseKitchen kitchen = null;
    private int asked = QUESTIONS_OF_ONE;

    private Witness(Consumer<PromiseKitchen> recipe) {
        this.recipe = recipe;
    }

    static List<String> tell(Consumer<PromiseKitchen> recipe) {
        Witness witness = new Witness(recipe);
        witness.ask("now()", x -> x.now());
        int stages = Integer.parseInt(witness.ask("stages()", x -> x.stages()));
        for (int s = 1; s <= stages; s++) {
            witness.askStage(s);
        }
        for (int c = 1; c <= MOST_COOKS; c++) {
            for (int what = 0; what <= 3; what++) {
                int cook = c;
                int asks = what;
                witness.ask("cook(" + c + ", " + what + ")", x -> x.cook(cook, asks));
            }
        }
        witness.askLog();
        // it changes the kitchen, which is not asked again
        witness.ask("clearPlan()", x -> x.clearPlan());
        return witness.told;
    }

    private String ask(String question, ToIntFunction<PromiseKitchen> call) {
        if (asked == QUESTIONS_OF_ONE) {
            kitchen = new PromiseKitchen();
            recipe.accept(kitchen);
            asked = 0;
        }
        asked++;
        String answer;
        try {
            answer = Integer.toString(call.applyAsInt(kitchen));
        } catch (RuntimeException thrown) {
            answer = thrown.getClass().getSimpleName();
        }
        told.add(question + " answers " + answer);
        return answer;
    }

    private void askStage(int s) {
        String state = ask("state(" + s + ")", x -> x.state(s));
        ask("answer(" + s + ")", x -> x.answer(s));
        ask("served(" + s + ")", x -> x.served(s));
        ask("end(" + s + ", 0)", x -> x.end(s, 0));
        ask("end(" + s + ", 1)", x -> x.end(s, 1));
        if (!ask("work(" + s + ", 0)", x -> x.work(s, 0)).equals("-1")) {
            ask("work(" + s + ", 1)", x -> x.work(s, 1));
            ask("work(" + s + ", 2)", x -> x.work(s, 2));
            int pauses = Integer.parseInt(ask("work(" + s + ", 3)", x -> x.work(s, 3)));
            for (int i = 1; i <= pauses; i++) {
                int which = i;
                ask("pause(" + s + ", " + i + ")", x -> x.pause(s, which));
            }
        }
        if (state.equals("6")) {
            askTree(s);
        }
    }

    private void askTree(int s) {
        String kind = "";
        for (int i = 0; !kind.equals("IndexOutOfBoundsException"); i++) {
            int which = i;
            kind = ask("failure(" + s + ", " + i + ", 0)", x -> x.failure(s, which, 0));
            for (int what = 1; what <= 3; what++) {
                int asks = what;
                ask("failure(" + s + ", " + i + ", " + what + ")", x -> x.failure(s, which, asks));
            }
        }
    }

    private void askLog() {
        String minute = "";
        for (int i = 0; !minute.equals("-1"); i++) {
            int which = i;
            minute = ask("log(" + i + ", 0)", x -> x.log(which, 0));
            ask("log(" + i + ", 1)", x -> x.log(which, 1));
            ask("log(" + i + ", 2)", x -> x.log(which, 2));
        }
    }
}
