import java.lang.reflect.InvocationTargetException;
import java.lang.reflect.Method;
import java.util.ArrayList;
import java.util.HashMap;
import java.util.List;
import java.util.Map;
import java.util.Random;

/**
 * Many runs of chance calls (the same ones each time): the program answers as the plain kitchen does. One object is
 * asked far more than the 512 times that are promised of it, as the program counts no calls; the tests by hand keep
 * to 512.
 */
public final class AgainstPlainKitchenTest {
    private static final int RUNS = 1000;
    private static final int SHOWN_AT_MOST = 5;
    /** Above any answer and exception name: so that an answer and an exception are never taken for each other. */
    private static final long THROWN = 1L << 40;

    private static final Map<String, Method> PROGRAM = methodsOf(PromiseKitchen.class);
    private static final Map<String, Method> PLAIN = methodsOf(PlainKitchen.class);
    private static final String[] MAKERS = {
        "task", "value", "failed", "then", "both", "first", "all", "any", "onFailure", "always", "limit", "retry",
        "nested"};

    private final Random chance;
    private final PromiseKitchen program = new PromiseKitchen();
    private final PlainKitchen plain = new PlainKitchen();
    private final List<String> told = new ArrayList<>();
    private final int[] weights = new int[MAKERS.length];
    private boolean differs = false;

    private AgainstPlainKitchenTest(long seed) {
        chance = new Random(seed);
        for (int i = 0; i < weights.length; i++) {
            weights[i] = chance.nextInt(3) == 0 ? 0 : 1 + chance.nextInt(8);
        }
        weights[0]++;
    }

    public static void main(String[] args) {
        int wrong = 0;
        for (int seed = 1; seed <= RUNS && wrong < SHOWN_AT_MOST; seed++) {
            AgainstPlainKitchenTest run = new AgainstPlainKitchenTest(seed);
            run.play();
            if (run.differs) {
                wrong++;
                System.out.println("run of seed " + seed + ":");
                run.told.forEach(System.out::println);
            }
        }
        System.out.println(wrong == 0 ? RUNS + " runs are as the plain kitchen's" : "the kitchens differ");
        if (wrong != 0) {
            System.exit(1);
        }
    }

    private static Map<String, Method> methodsOf(Class<?> kitchen) {
        Map<String, Method> methods = new HashMap<>();
        for (Method method : kitchen.getMethods()) {
            if (method.getDeclaringClass() == kitchen) {
                methods.put(method.getName(), method);
            }
        }
        return methods;
    }

    private static long ask(Object kitchen, Map<String, Method> methods, String name, Object[] args) {
        try {
            return (Integer) methods.get(name).invoke(kitchen, args);
        } catch (InvocationTargetException e) {
            Class<?> thrown = e.getCause().getClass();
            return THROWN + (thrown == IllegalArgumentException.class ? 1 : thrown == IllegalStateException.class ? 2
                    : thrown == IndexOutOfBoundsException.class ? 3 : 4);
        } catch (IllegalAccessException e) {
            throw new IllegalStateException(e);
        }
    }

    private long call(boolean isTold, String name, Integer... args) {
        if (differs) {
            return 0;
        }
        Object[] given = args.clone();
        long got = ask(program, PROGRAM, name, given);
        long want = ask(plain, PLAIN, name, given);
        if (isTold || got != want) {
            told.add("  " + name + List.of(args) + " answered " + got);
        }
        if (got != want) {
            told.add("  where the plain kitchen answers " + want);
            differs = true;
        }
        return got;
    }

    private void play() {
        int calls = chance.nextInt(10) == 0 ? 400 : 10 + chance.nextInt(70);
        int runsIn = 2 + chance.nextInt(12);
        int longest = chance.nextBoolean() ? 6 : 60;
        if (chance.nextInt(3) > 0) {
            call(true, "cooks", 1 + chance.nextInt(4));
        }
        for (int i = 0; i < calls && !differs; i++) {
            int which = chance.nextInt(runsIn + 6);
            if (which == 0) {
                int now = program.now();
                call(true, "run", now + chance.nextInt(12));
            } else if (which == 1) {
                int least = chance.nextInt(4) == 0 ? program.now() : program.now() + 1;
                call(true, "callOff", stage(), least + chance.nextInt(longest));
            } else if (which == 2) {
                call(true, "plan", stage(), 1 + chance.nextInt(4), kind());
            } else if (which == 3 && chance.nextInt(6) == 0) {
                call(true, "clearPlan");
            } else if (which == 4 && chance.nextInt(3) == 0) {
                call(true, "cooks", chance.nextInt(14));
            } else if (which == 5 && chance.nextInt(4) == 0) {
                strange();
            } else {
                make(longest);
            }
            if (chance.nextInt(12) == 0) {
                compareAll();
            }
        }
        for (int i = 0; i < 3 && !differs; i++) {
            call(true, "run", Math.min(10000, program.now() + 1 + chance.nextInt(60)));
            compareAll();
        }
        call(true, "run", program.now() + 400);
        compareAll();
    }

    /** A stage's number, mostly one of the newest, seldom one that is not there. */
    private int stage() {
        int made = program.stages();
        if (made == 0 || chance.nextInt(40) == 0) {
            return chance.nextInt(made + 3) - 1;
        }
        int back = chance.nextInt(3) == 0 ? made : Math.min(made, 8);
        return made - chance.nextInt(back);
    }

    private int kind() {
        return chance.nextInt(3) == 0 ? chance.nextInt(16) : new int[] {1, 3, 4, 7, 8, 2, 5, 6}[chance.nextInt(8)];
    }

    private int amount() {
        int which = chance.nextInt(8);
        return which == 0 ? chance.nextInt() : which == 1 ? Integer.MIN_VALUE : which == 2 ? Integer.MAX_VALUE
                : chance.nextInt(41) - 20;
    }

    private String maker() {
        int sum = 0;
        for (int weight : weights) {
            sum += weight;
        }
        int point = chance.nextInt(sum);
        int which = 0;
        while (point >= weights[which]) {
            point -= weights[which];
            which++;
        }
        return MAKERS[which];
    }

    private void make(int longest) {
        int minutes = 1 + chance.nextInt(longest);
        int function = chance.nextInt(5);
        int count = 1 + chance.nextInt(chance.nextInt(5) == 0 ? 24 : 4);
        int from = Math.max(1, stage() - count + 1);
        String name = maker();
        switch (name) {
            case "task":
                call(true, name, minutes, function, amount());
                break;
            case "value":
                call(true, name, amount());
                break;
            case "failed":
                call(true, name, kind());
                break;
            case "then":
                call(true, name, stage(), function, chance.nextInt(6) == 0 ? 0 : amount());
                break;
            case "both":
                call(true, name, stage(), stage(), function);
                break;
            case "first":
                call(true, name, stage(), stage());
                break;
            case "all":
                call(true, name, from, count);
                break;
            case "any":
                call(true, name, from, count, 1 + chance.nextInt(count));
                break;
            case "onFailure":
                call(true, name, stage(), chance.nextInt(3) == 0 ? 0 : kind(), stage());
                break;
            case "always":
                call(true, name, stage(), minutes, function, amount());
                break;
            case "limit":
                call(true, name, stage(), minutes);
                break;
            case "retry":
                call(true, name, minutes, function, chance.nextBoolean() ? 3 : amount(), chance.nextInt(6),
                        1 + chance.nextInt(chance.nextBoolean() ? 3 : 30));
                break;
            default:
                call(true, name, minutes + 1, function, amount(), stage());
                break;
        }
    }

    /** A call whose numbers are at, or just behind, the edges that the document names. */
    private void strange() {
        int[] edges = {-1, 0, 1, 2, 3, 4, 5, 6, 7, 12, 13, 15, 16, 24, 25, 30, 31, 60, 61, 400, 401, 10000, 10001,
            program.now() - 1, program.now(), program.stages(), program.stages() + 1, Integer.MIN_VALUE,
            Integer.MAX_VALUE};
        List<String> names = new ArrayList<>(PROGRAM.keySet());
        names.sort(null);
        String name = names.get(chance.nextInt(names.size()));
        Integer[] args = new Integer[PROGRAM.get(name).getParameterCount()];
        for (int i = 0; i < args.length; i++) {
            args[i] = chance.nextBoolean() ? stage() : edges[chance.nextInt(edges.length)];
        }
        call(true, name, args);
    }

    private void compareAll() {
        call(false, "now");
        call(false, "stages");
        for (int s = 0; s <= program.stages() + 1 && !differs; s++) {
            call(false, "state", s);
            call(false, "answer", s);
            call(false, "served", s);
            for (int what = -1; what <= 4; what++) {
                call(false, "end", s, what);
                call(false, "work", s, what);
                call(false, "failure", s, -1, what);
            }
            for (int i = 0; i <= 6; i++) {
                call(false, "pause", s, i);
            }
            compareTree(s);
        }
        for (int c = 0; c <= 13; c++) {
            for (int what = -1; what <= 4; what++) {
                call(false, "cook", c, what);
            }
        }
        long minute = 0;
        for (int i = -1; minute >= 0 || i == 0; i++) {
            minute = call(false, "log", i, 0);
            for (int what = -1; what <= 3; what++) {
                call(false, "log", i, what);
            }
            if (differs) {
                return;
            }
        }
    }

    private void compareTree(int s) {
        for (int i = 0; i < 2000 && !differs; i++) {
            if (call(false, "failure", s, i, 0) >= THROWN) {
                return;
            }
            for (int what = 1; what <= 3; what++) {
                call(false, "failure", s, i, what);
            }
        }
    }
}
