import java.lang.reflect.Method;
import java.lang.reflect.Modifier;
import java.util.Map;
import java.util.TreeMap;

/** The calls of the class by their names. */
final class Calls {
    private static final Map<String, Method> METHODS = new TreeMap<>();

    static {
        for (Method method : OneMatch.class.getDeclaredMethods()) {
            if (Modifier.isPublic(method.getModifiers())) {
                METHODS.put(method.getName(), method);
            }
        }
    }

    private Calls() {
    }

    /** All names, as letters go. */
    static String[] names() {
        return METHODS.keySet().toArray(new String[0]);
    }

    static long call(OneMatch x, String name, int... a) throws Exception {
        Object[] boxed = new Object[a.length];
        for (int i = 0; i < a.length; i++) {
            boxed[i] = a[i];
        }
        return ((Number) METHODS.get(name).invoke(x, boxed)).longValue();
    }

    static int parameters(String name) {
        return METHODS.get(name).getParameterCount();
    }
}
