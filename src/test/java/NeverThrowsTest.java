import java.lang.reflect.InvocationTargetException;
import java.lang.reflect.Method;
import java.lang.reflect.Modifier;
import java.util.ArrayList;
import java.util.Arrays;
import java.util.Comparator;
import java.util.List;
import java.util.Random;

/** LANGUAGE.md, rule 7: no call throws or fails to end, for any numbers in any state, behind the 512th call too. */
public final class NeverThrowsTest {
    private static final int OBJECTS = 150, CALLS = 3000;
    private static final String LETTERS = "abcdefg1234567*+ ";
    private final Random random;
    private final DropChase x;
    private final int n;

    private NeverThrowsTest(int seed) {
        random = new Random(seed);
        n = 5 + random.nextInt(3);
        x = new DropChase(n);
    }

    public static void main(String[] args) throws Exception {
        List<Method> methods = new ArrayList<>();
        for (Method m : DropChase.class.getDeclaredMethods()) {
            if (Modifier.isPublic(m.getModifiers())) methods.add(m);
        }
        // The order in which the machine tells methods is free, and runs are to be the same each time.
        methods.sort(Comparator.comparing(Method::getName));
        for (int seed = 1; seed <= OBJECTS; seed++) new NeverThrowsTest(seed).run(methods, seed);
        Due.end();
    }

    private void run(List<Method> methods, int seed) throws Exception {
        for (int call = 0; call < CALLS; call++) {
            if (random.nextInt(60) == 0) setUp();
            Method m = methods.get(random.nextInt(methods.size()));
            if (m.getName().equals("clear") && random.nextInt(4) != 0) continue;
            Object[] given = given(m);
            int thrown = 0;
            try {
                m.invoke(x, given);
            } catch (InvocationTargetException e) {
                thrown = 1;
            }
            Due.due(0, "seed " + seed + ": exceptions of " + m.getName() + Arrays.toString(given), thrown, 0);
        }
    }

    private void setUp() {
        x.clear();
        for (int kind = 1; kind < 8; kind++) {
            if (random.nextInt(2) == 0) tellKind(kind);
            x.hand(0, kind, random.nextInt(10));
            x.hand(1, kind, random.nextInt(10));
        }
        for (int r = 0; r < n; r++) x.line(r, 0, n);
        for (int men = random.nextInt(n * n); men > 0; men--) {
            putAnywhere(2 + random.nextInt(7) + 16 * random.nextInt(2));
        }
        putAnywhere(1);
        putAnywhere(17);
        if (x.stand(0) < 0) x.stand(1);
    }

    private void tellKind(int kind) {
        int steps = random.nextInt(3) == 0 ? 1023 : random.nextInt(1024);
        int runs = random.nextInt(3) == 0 ? 255 : random.nextInt(256) & random.nextInt(256);
        x.kind(kind, steps, runs, random.nextInt(1024), random.nextInt(256), random.nextInt(4));
    }

    private void putAnywhere(int item) {
        x.put(random.nextInt(n), 0, random.nextInt(n), item);
    }

    private Object[] given(Method m) {
        Object[] given = new Object[m.getParameterCount()];
        for (int i = 0; i < given.length; i++) {
            boolean asksTruth = m.getParameterTypes()[i] == boolean.class;
            given[i] = asksTruth ? (Object) random.nextBoolean() : (Object) anyNumber();
        }
        if (m.getName().equals("fuel") && random.nextInt(2) == 0) given[0] = 1000;
        if (m.getName().equals("type")) given[0] = (int) LETTERS.charAt(random.nextInt(LETTERS.length()));
        return given;
    }

    private int anyNumber() {
        switch (random.nextInt(10)) {
            case 0: return random.nextInt();
            case 1: return random.nextInt(1100);
            case 2: return random.nextInt(60) - 2;
            case 3: return random.nextInt(2) == 0 ? Due.LEAST : Due.MOST;
            default: return random.nextInt(10) - 1;
        }
    }
}
