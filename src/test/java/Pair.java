import java.lang.reflect.Method;
import java.util.ArrayList;
import java.util.Arrays;
import java.util.List;
import java.util.Map;
import java.util.TreeMap;

/** The program and the model side by side: every call goes to both, and the answers are compared. */
final class Pair {
    /** What an object answers behind its 512th call is free. */
    static final class Used extends RuntimeException {
        private static final long serialVersionUID = 1;
    }

    private static final int MOST_CALLS = 512;
    private static final Map<String, Method> OF_PROGRAM = new TreeMap<>();
    private static final Map<String, Method> OF_MODEL = new TreeMap<>();
    static int wrong = 0;
    static long calls = 0;

    static {
        for (Method m : DropChase.class.getMethods()) {
            if (m.getDeclaringClass() == DropChase.class) OF_PROGRAM.put(m.getName(), m);
        }
        for (Method m : Model.class.getDeclaredMethods()) {
            Method same = OF_PROGRAM.get(m.getName());
            boolean alike = same != null && Arrays.equals(same.getParameterTypes(), m.getParameterTypes());
            if (alike) OF_MODEL.put(m.getName(), m);
        }
    }

    final DropChase program;
    final Model model;
    final String name;
    final int n;
    private final List<String> log = new ArrayList<>();
    private boolean told = false;

    Pair(String name, int n) {
        this.name = name;
        program = new DropChase(n);
        model = new Model(n);
        this.n = model.n;
        log.add("new DropChase(" + n + ")");
    }

    int made() {
        return log.size() - 1;
    }

    int call(String call, int... a) {
        return (int) longCall(call, a);
    }

    long longCall(String call, int... a) {
        if (made() == MOST_CALLS) throw new Used();
        calls++;
        log.add(call + Arrays.toString(a));
        long got = answer(OF_PROGRAM.get(call), program, a);
        long want = answer(OF_MODEL.get(call), model, a);
        if (got != want && !told) {
            told = true;
            wrong++;
            System.out.println(name + ": " + String.join(", ", log) + " answered " + got + ", the model says " + want);
        }
        return want;
    }

    /** A call of the program alone, by its name. */
    static long ask(DropChase x, String call, int... a) {
        return answer(OF_PROGRAM.get(call), x, a);
    }

    private static long answer(Method method, Object of, int[] a) {
        Object[] given = new Object[a.length];
        for (int i = 0; i < a.length; i++) {
            if (method.getParameterTypes()[i] == boolean.class) given[i] = a[i] == 1;
            else given[i] = a[i];
        }
        try {
            return ((Number) method.invoke(of, given)).longValue();
        } catch (ReflectiveOperationException thrown) {
            throw new IllegalStateException(method + " of " + Arrays.toString(a), thrown);
        }
    }
}
