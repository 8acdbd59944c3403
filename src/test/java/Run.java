import java.lang.reflect.InvocationTargetException;
import java.lang.reflect.Method;
import java.lang.reflect.Modifier;
import java.util.Map;
import java.util.TreeMap;

/** One object and how many calls it has had: behind the 512th the document promises nothing more. */
final class Run {
    private static final int MOST_CALLS = 512;
    private static final Map<String, Method> CALLS = calls();

    private final PealOfExcuses peal = new PealOfExcuses();
    private int made;

    private static Map<String, Method> calls() {
        Map<String, Method> all = new TreeMap<>();
        for (Method m : PealOfExcuses.class.getDeclaredMethods()) {
            if (Modifier.isPublic(m.getModifiers())) {
                all.put(m.getName(), m);
            }
        }
        return all;
    }

    static Class<?>[] types(String name) {
        Method m = CALLS.get(name);
        if (m == null) {
            throw new IllegalArgumentException("no such call: " + name);
        }
        return m.getParameterTypes();
    }

    long call(String name, Object... args) {
        made++;
        if (made > MOST_CALLS) {
            throw new IllegalStateException("the test makes more than " + MOST_CALLS + " calls on one object");
        }
        try {
            return ((Number) CALLS.get(name).invoke(peal, args)).longValue();
        } catch (InvocationTargetException e) {
            throw new IllegalStateException(name + " threw", e.getCause());
        } catch (IllegalAccessException e) {
            throw new IllegalStateException(name + " is no public call", e);
        }
    }
}
