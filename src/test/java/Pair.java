import java.lang.reflect.Method;
import java.lang.reflect.Modifier;
import java.util.Arrays;
import java.util.LinkedHashMap;
import java.util.Map;

/** An object of the class and a model of it, called together; what differs is printed with the calls that led there. */
final class Pair {
    private static final Map<String, Method> METHODS = new LinkedHashMap<>();
    private static int wrong;
    private static int calls;

    private final EvenBodies object = new EvenBodies();
    private final ModelObject model = new ModelObject();
    private final StringBuilder changes = new StringBuilder();

    static {
        for (Method method : EvenBodies.class.getDeclaredMethods()) {
            if (Modifier.isPublic(method.getModifiers())) {
                METHODS.put(method.getName(), method);
            }
        }
    }

    static Map<String, Method> methods() {
        return METHODS;
    }

    long call(String name, int... a) {
        Object[] boxed = Arrays.stream(a).boxed().toArray();
        long got;
        try {
            got = ((Number) METHODS.get(name).invoke(object, boxed)).longValue();
        } catch (ReflectiveOperationException e) {
            wrong++;
            System.out.println(changes + name + Arrays.toString(a) + " threw " + e.getCause());
            return 0;
        }
        long due = model.call(name, a);
        calls++;
        if (got != due) {
            wrong++;
            if (wrong <= 40) {
                System.out.println(changes + name + Arrays.toString(a) + " answered " + got + ", due is " + due);
            }
        }
        if (name.equals("body") || name.equals("angle") || name.equals("ring") || name.equals("order")) {
            changes.append(name).append(Arrays.toString(a)).append(' ');
        }
        return due;
    }

    static void due(String what, long got, long want) {
        if (got != want) {
            wrong++;
            System.out.println(what + ": " + got + ", due is " + want);
        }
    }

    ModelObject model() {
        return model;
    }

    static void end() {
        System.out.println(calls + " calls, " + wrong + " answers are not as due");
        if (wrong != 0) {
            System.exit(1);
        }
    }
}
