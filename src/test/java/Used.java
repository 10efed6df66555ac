import java.lang.reflect.InvocationTargetException;
import java.lang.reflect.Method;
import java.lang.reflect.Modifier;
import java.util.Arrays;
import java.util.HashMap;
import java.util.Map;

/** An object with how often it was called: it is promised for 512 calls, so no test should need more. */
final class Used {
    static final int MOST_CALLS = 512;
    private static final Map<String, Method> METHODS = methods();

    private final GhostTrain of = new GhostTrain();
    private int calls;

    private static Map<String, Method> methods() {
        Map<String, Method> all = new HashMap<>();
        for (Method m : GhostTrain.class.getDeclaredMethods()) {
            if (Modifier.isPublic(m.getModifiers())) {
                all.put(m.getName(), m);
            }
        }
        return all;
    }

    static String text(String name, int... args) {
        return name + Arrays.toString(args).replace('[', '(').replace(']', ')');
    }

    long call(String name, int... args) {
        calls++;
        if (calls > MOST_CALLS) {
            throw new IllegalStateException("call " + calls + ", " + text(name, args) + ", is one too many");
        }
        Object[] boxed = new Object[args.length];
        for (int i = 0; i < args.length; i++) {
            boxed[i] = args[i];
        }
        try {
            return ((Number) METHODS.get(name).invoke(of, boxed)).longValue();
        } catch (InvocationTargetException e) {
            throw new IllegalStateException(text(name, args) + " throws", e.getCause());
        } catch (IllegalAccessException e) {
            throw new IllegalStateException(e);
        }
    }
}
