import java.lang.reflect.InvocationTargetException;
import java.lang.reflect.Method;
import java.lang.reflect.Modifier;
import java.util.Arrays;
import java.util.HashMap;
import java.util.Map;

/** The program and the second telling (PlainElbows), side by side: each call must be answered alike by both. */
final class Both {
    private static final Map<String, Method> PROGRAM = publicCalls(TwoElbows.class);
    private static final Map<String, Method> PLAIN = publicCalls(PlainElbows.class);

    private final TwoElbows x = new TwoElbows();
    final PlainElbows y = new PlainElbows();
    private final Checks checks;
    private final String run;
    private int calls = 0;

    Both(Checks checks, String run) {
        this.checks = checks;
        this.run = run;
    }

    private static Map<String, Method> publicCalls(Class<?> of) {
        Map<String, Method> calls = new HashMap<>();
        for (Method m : of.getDeclaredMethods()) {
            if (Modifier.isPublic(m.getModifiers())) calls.put(m.getName(), m);
        }
        return calls;
    }

    /** The names of all calls, in one order always. */
    static String[] names() {
        String[] names = PROGRAM.keySet().toArray(new String[0]);
        Arrays.sort(names);
        return names;
    }

    static int known() {
        return PLAIN.size() * 100 + PROGRAM.size();
    }

    static int argumentsOf(String name) {
        return PROGRAM.get(name).getParameterCount();
    }

    int calls() {
        return calls;
    }

    long call(String name, long... a) throws Exception {
        Method m = PROGRAM.get(name);
        Object[] arguments = new Object[a.length];
        for (int k = 0; k < a.length; k++) {
            if (m.getParameterTypes()[k] == long.class) arguments[k] = a[k];
            else arguments[k] = (int) a[k];
        }
        long got = ((Number) m.invoke(x, arguments)).longValue();
        long due = due(name, arguments);
        calls++;
        if (got != due) checks.same(0, run + ", call " + calls + ": " + name + Arrays.toString(a), got, due);
        else checks.countOne();
        return got;
    }

    private long due(String name, Object[] arguments) throws Exception {
        try {
            return ((Number) PLAIN.get(name).invoke(y, arguments)).longValue();
        } catch (InvocationTargetException thrown) {
            if (thrown.getCause() instanceof PlainElbows.Refused) return ((PlainElbows.Refused) thrown.getCause()).code;
            throw thrown;
        }
    }

    void law(String text) throws Exception {
        feed(text);
        call("law");
    }

    void feed(String text) throws Exception {
        for (int k = 0; k < text.length(); k++) call("feed", text.charAt(k));
    }

    void row(int shelf, int sort, long... elements) throws Exception {
        call("row", shelf, sort, elements.length);
        for (int i = 0; i < elements.length; i++) call("put", shelf, i, elements[i]);
    }
}
