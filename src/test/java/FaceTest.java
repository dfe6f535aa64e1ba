import java.lang.reflect.Constructor;
import java.lang.reflect.Field;
import java.lang.reflect.Method;
import java.lang.reflect.Modifier;
import java.util.Arrays;
import java.util.List;
import java.util.Set;
import java.util.TreeSet;
import java.util.stream.Collectors;

/** The class has the document's face, and nothing else can be seen of it. */
public final class FaceTest {
    private static final List<String> FACE = List.of("cooks 1", "task 3", "value 1", "failed 1", "then 3", "both 3",
            "first 2", "all 2", "any 3", "onFailure 3", "always 4", "limit 2", "retry 5", "nested 4", "plan 3",
            "clearPlan 0", "callOff 2", "run 1", "now 0", "state 1", "answer 1", "end 2", "failure 3", "work 2",
            "pause 2", "cook 2", "served 1", "stages 0", "log 2");
    private static final Check CHECK = new Check();

    public static void main(String[] args) {
        CHECK.about("the face");
        Class<?> kitchen = PromiseKitchen.class;
        if (!Modifier.isPublic(kitchen.getModifiers()) || !Modifier.isFinal(kitchen.getModifiers())) {
            CHECK.say("the class is not public and final");
        }
        Set<String> seen = new TreeSet<>();
        for (Method method : kitchen.getDeclaredMethods()) {
            if (!Modifier.isPrivate(method.getModifiers()) && !method.isSynthetic()) {
                seen.add(told(method));
            }
        }
        Set<String> due = FACE.stream().map(entry -> "public int " + entry).collect(Collectors.toCollection(TreeSet::new));
        if (!seen.equals(due)) {
            CHECK.say("the methods are " + seen + ", due are " + due);
        }
        checkPrivateNames(kitchen);
        checkMembers(kitchen);
        checkExceptions(kitchen);
        CHECK.finish();
    }

    private static String told(Method method) {
        boolean onlyNumbers = Arrays.stream(method.getParameterTypes()).allMatch(type -> type == int.class);
        return Modifier.toString(method.getModifiers()) + " " + method.getReturnType().getSimpleName() + " "
                + method.getName() + " " + (onlyNumbers ? method.getParameterCount() : -1);
    }

    private static void checkPrivateNames(Class<?> kitchen) {
        Set<String> names = FACE.stream().map(entry -> entry.split(" ")[0]).collect(Collectors.toSet());
        for (Method method : kitchen.getDeclaredMethods()) {
            if (Modifier.isPrivate(method.getModifiers()) && names.contains(method.getName())) {
                CHECK.say("a private method bears the public name " + method.getName());
            }
        }
    }

    private static void checkMembers(Class<?> kitchen) {
        Constructor<?>[] constructors = kitchen.getDeclaredConstructors();
        if (constructors.length != 1 || constructors[0].getParameterCount() != 0
                || !Modifier.isPublic(constructors[0].getModifiers())) {
            CHECK.say("there is not just the public constructor");
        }
        for (Field field : kitchen.getDeclaredFields()) {
            if (!Modifier.isPrivate(field.getModifiers())) {
                CHECK.say("the field " + field.getName() + " can be seen");
            }
            if (Modifier.isStatic(field.getModifiers()) && !Modifier.isFinal(field.getModifiers())) {
                CHECK.say("the static field " + field.getName() + " is not final");
            }
        }
        for (Class<?> inside : kitchen.getDeclaredClasses()) {
            int modifiers = inside.getModifiers();
            if (Modifier.isPublic(modifiers) || Modifier.isProtected(modifiers) || !Modifier.isStatic(modifiers)) {
                CHECK.say("the class " + inside.getSimpleName() + " is not a hidden static one");
            }
        }
    }

    private static void checkExceptions(Class<?> kitchen) {
        for (Method method : kitchen.getDeclaredMethods()) {
            List<String> thrown = Arrays.stream(method.getExceptionTypes()).map(Class::getSimpleName).toList();
            List<String> due = switch (method.getName()) {
                case "answer" -> List.of("IllegalArgumentException", "IllegalStateException");
                case "failure" -> List.of("IllegalArgumentException", "IllegalStateException", "IndexOutOfBoundsException");
                default -> List.of();
            };
            if (Modifier.isPublic(method.getModifiers()) && !thrown.equals(due)) {
                CHECK.say(method.getName() + " throws " + thrown + ", due is " + due);
            }
        }
    }
}
