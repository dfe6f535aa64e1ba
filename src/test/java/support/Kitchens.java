/** Recipes of kitchens in which many things are under way, so that a change of any of them would be seen. */
final class Kitchens {
    static final int MOST_STAGES = 200;

    static final int BUSY_NOW = 10;
    static final int BUSY_STAGES = 15;
    static final int WIDE_STAGES = BUSY_STAGES + 25;

    /** The stages of a kitchen with one of each form; those of the forms that are works. */
    static final int FORMS = 14;
    static final int[] WORKS_OF_FORMS = {1, 2, 3, 11};
    static final int[] OTHERS_OF_FORMS = {4, 5, 6, 7, 8, 9, 10, 12, 13, 14};

    private Kitchens() {
    }

    /**
     * A stage in every state. NOW is 10; 1 to 3 have values, 4, 14 FAILED, 5 is at work, 6 WAITS for it, 7 PAUSES,
     * 8 is HELD, 9 to 11 and 15 have not ended, 12 is CALLED OFF, 13 READY; the two cooks both have a work.
     */
    static void busy(PromiseKitchen x) {
        x.cooks(2);
        x.task(2, 0, 4);
        x.nested(2, 0, 0, 1);
        x.nested(2, 0, 0, 2);
        x.run(6);
        x.failed(8);
        x.task(50, 2, 3);
        x.nested(4, 1, 5, 5);
        x.retry(2, 0, 9, 3, 20);
        x.plan(7, 1, 3);
        x.plan(7, 2, 4);
        x.always(5, 3, 4, 9);
        x.then(6, 1, 2);
        x.limit(10, 90);
        x.task(9, 0, 0);
        x.callOff(12, 7);
        x.run(BUSY_NOW);
        x.task(5, 3, 11);
        x.any(4, 1, 1);
        x.onFailure(4, 3, 13);
        x.callOff(13, 40);
        x.plan(13, 1, 14);
    }

    /** The busy one with 25 values behind: more stages in a row than all() and any() take. */
    static void wide(PromiseKitchen x) {
        busy(x);
        fill(x, WIDE_STAGES);
    }

    /** The busy one with values behind, till there are so many stages. */
    static void fill(PromiseKitchen x, int stages) {
        for (int s = x.stages() + 1; s <= stages; s++) {
            x.value(s);
        }
    }

    static void full(PromiseKitchen x) {
        busy(x);
        fill(x, MOST_STAGES);
    }

    static void oneTooFewForTwo(PromiseKitchen x) {
        busy(x);
        fill(x, MOST_STAGES - 1);
    }

    /** Stages of every form, none of them ended but for the value and the failed one. */
    static void formsOfAll(PromiseKitchen x) {
        x.task(9, 0, 1);
        x.retry(9, 0, 2, 1, 1);
        x.nested(9, 0, 3, 1);
        x.value(4);
        x.failed(5);
        x.then(1, 0, 0);
        x.both(1, 2, 0);
        x.first(1, 2);
        x.all(1, 2);
        x.any(1, 2, 2);
        x.always(1, 1, 0, 0);
        x.onFailure(1, 0, 2);
        x.limit(1, 300);
    }

    /** 64 plans: all six WORKINGS of the works 1 to 10, and four of work 11. */
    static void plannedFull(PromiseKitchen x) {
        for (int s = 1; s <= 11; s++) {
            x.retry(1, 0, 0, 5, 1);
        }
        for (int i = 0; i < 64; i++) {
            x.plan(1 + i / 6, 1 + i % 6, 3);
        }
    }
}
