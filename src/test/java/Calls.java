import java.lang.reflect.InvocationTargetException;
import java.lang.reflect.Method;
import java.util.HashMap;
import java.util.Map;
import java.util.StringJoiner;

/** Calls of NosePost by their names, so that tests can tell tables of them. */
final class Calls {
    private static final Map<String, Method> FACE = new HashMap<>();

    static {
        for (Method m : NosePost.class.getMethods()) {
            FACE.put(m.getName(), m);
        }
    }

    private Calls() {
    }

    static long on(NosePost x, String name, int... args) {
        Object[] given = new Object[args.length];
        for (int k = 0; k < args.length; k++) {
            given[k] = args[k];
        }
        try {
            return ((Number) FACE.get(name).invoke(x, given)).longValue();
        } catch (InvocationTargetException | IllegalAccessException e) {
            throw new IllegalStateException(told(name, args) + " threw", e);
        }
    }

    static String told(String name, int... args) {
        StringJoiner told = new StringJoiner(", ", name + "(", ")");
        for (int v : args) {
            told.add(v == Integer.MIN_VALUE ? "least" : v == Integer.MAX_VALUE ? "most" : "" + v);
        }
        return told.toString();
    }
}
