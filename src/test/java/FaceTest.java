import java.lang.reflect.Constructor;
import java.lang.reflect.Field;
import java.lang.reflect.Method;
import java.lang.reflect.Modifier;
import java.util.Arrays;
import java.util.Set;
import java.util.TreeSet;

/** The document's public face, and nothing beside it (LANGUAGE.md, rules 1, 2, 5 and 11). */
public final class FaceTest {
    private static final String[] METHODS = {
        "int kind(int,int,int,int,int,int)", "int line(int,int,int)", "int lose(int)", "int put(int,int,int,int)",
        "int get(int,int,int)", "int copy(int,int,int,int,int)", "int hand(int,int,int)", "int stand(int)",
        "int clear()", "int field(int)", "int has(int,int)", "int attacks(int,int)", "int check(int)", "int moves()",
        "int move(int,int)", "int why(int,int,boolean)", "int whySet(int,int)", "int rows(int)", "int go(int)",
        "int back()", "int forth()", "int play(int)", "int fuel(int)", "int hunt(int)", "int spent()", "int tree()",
        "int node(int,int)", "int forge(int,int,int,boolean,int)", "int verify()", "int write()", "int type(int)",
        "int wipe()", "int letter(int)", "int read()", "int finding()", "long digest()"};
    private static final String[] CONSTANTS = {"NONE", "BAD", "STATE", "FULL", "SPENT"};

    public static void main(String[] args) throws Exception {
        theClass();
        theMethods();
        theConstants();
        theClassesInside();
        Due.end();
    }

    private static void theClass() {
        int modifiers = DropChase.class.getModifiers();
        Due.due(1, "public", Modifier.isPublic(modifiers) ? 1 : 0, 1);
        Due.due(1, "final", Modifier.isFinal(modifiers) ? 1 : 0, 1);
        Constructor<?>[] all = DropChase.class.getDeclaredConstructors();
        Due.due(1, "constructors", all.length, 1);
        Due.due(1, "of an int", Arrays.equals(all[0].getParameterTypes(), new Class<?>[] {int.class}) ? 1 : 0, 1);
        Due.due(1, "public", Modifier.isPublic(all[0].getModifiers()) ? 1 : 0, 1);
    }

    private static String nameOf(Method m) {
        StringBuilder s = new StringBuilder(m.getReturnType() + " " + m.getName() + "(");
        String comma = "";
        for (Class<?> type : m.getParameterTypes()) {
            s.append(comma).append(type);
            comma = ",";
        }
        return s.append(")").toString();
    }

    private static void theMethods() {
        Set<String> due = new TreeSet<>(Arrays.asList(METHODS));
        Set<String> got = new TreeSet<>();
        Set<String> names = new TreeSet<>();
        for (Method m : DropChase.class.getDeclaredMethods()) {
            if (Modifier.isPrivate(m.getModifiers())) continue;
            got.add(nameOf(m));
            names.add(m.getName());
            Due.due(1, nameOf(m) + " is public", Modifier.isPublic(m.getModifiers()) ? 1 : 0, 1);
            Due.due(1, nameOf(m) + " is not static", Modifier.isStatic(m.getModifiers()) ? 1 : 0, 0);
        }
        Due.due(1, "the methods " + got, got.equals(due) ? 1 : 0, 1);
        for (Method m : DropChase.class.getDeclaredMethods()) {
            boolean other = Modifier.isPrivate(m.getModifiers()) && names.contains(m.getName());
            Due.due(1, "a private " + m.getName(), other ? 1 : 0, 0);
            Due.due(1, nameOf(m) + " has at most 7 parameters", m.getParameterCount() <= 7 ? 1 : 0, 1);
        }
    }

    private static void theConstants() throws Exception {
        Set<String> due = new TreeSet<>(Arrays.asList(CONSTANTS));
        Set<String> got = new TreeSet<>();
        for (Field f : DropChase.class.getDeclaredFields()) {
            int modifiers = f.getModifiers();
            if (Modifier.isStatic(modifiers)) Due.due(1, f.getName(), Modifier.isFinal(modifiers) ? 1 : 0, 1);
            if (Modifier.isPrivate(modifiers)) continue;
            got.add(f.getName());
        }
        Due.due(1, "the constants " + got, got.equals(due) ? 1 : 0, 1);
        for (int i = 0; i < CONSTANTS.length; i++) {
            Due.due(1, CONSTANTS[i], DropChase.class.getField(CONSTANTS[i]).getInt(null), -1 - i);
        }
    }

    private static void theClassesInside() {
        Class<?>[] inside = DropChase.class.getDeclaredClasses();
        Due.due(1, "at most some twelve classes", inside.length < 12 ? 1 : 0, 1);
        for (Class<?> c : inside) {
            int modifiers = c.getModifiers();
            Due.due(1, c + " is static", Modifier.isStatic(modifiers) ? 1 : 0, 1);
            boolean seen = Modifier.isPublic(modifiers) || Modifier.isProtected(modifiers);
            Due.due(1, c + " is not public", seen ? 1 : 0, 0);
            int fields = 0;
            for (Field f : c.getDeclaredFields()) {
                if (!Modifier.isStatic(f.getModifiers())) fields++;
                else Due.due(1, c + "." + f.getName(), Modifier.isFinal(f.getModifiers()) ? 1 : 0, 1);
            }
            Due.due(1, c + " has at most some twenty fields", fields <= 20 ? 1 : 0, 1);
        }
    }
}
