import java.lang.reflect.Constructor;
import java.lang.reflect.Field;
import java.lang.reflect.Method;
import java.lang.reflect.Modifier;
import java.util.Map;
import java.util.Set;
import java.util.TreeMap;
import java.util.TreeSet;

/** The public face: the constants, the constructor and the nine methods, and nothing else in sight. */
public final class FaceTest {
    private static final Due due = new Due();

    public static void main(String[] args) throws IllegalAccessException {
        constants();
        methods();
        constructor();
        due.is("the class is public and final",
                TentativeLog.class.getModifiers(), Modifier.PUBLIC | Modifier.FINAL);
        due.is("nested classes", TentativeLog.class.getDeclaredClasses().length, 0);
        due.is("interfaces", TentativeLog.class.getInterfaces().length, 0);
        due.is("it extends no other class", TentativeLog.class.getSuperclass() == Object.class ? 1 : 0, 1);
        due.end();
    }

    private static void constants() throws IllegalAccessException {
        Map<String, Integer> want = new TreeMap<>(Map.of(
                "BAD_REPLICA", -1, "BAD_KIND", -2, "BAD_CELL", -3, "LOG_FULL", -4, "SAME", -5));
        want.putAll(Map.of("SET", 0, "ADD", 1, "TAKE", 2, "MOVE", 3, "CLAIM", 4, "SWAP", 5));
        want.putAll(Map.of("UNKNOWN", 0, "COMMITTED", 1, "APPLIED", 2, "MERGED", 3, "FAILED", 4));
        int constant = Modifier.PUBLIC | Modifier.STATIC | Modifier.FINAL;
        int seen = 0;
        for (Field field : TentativeLog.class.getDeclaredFields()) {
            if (Modifier.isPrivate(field.getModifiers())) {
                continue;
            }
            seen++;
            due.is("modifiers of " + field.getName(), field.getModifiers(), constant);
            due.is(field.getName() + " is an int", field.getType() == int.class ? 1 : 0, 1);
            due.is(field.getName() + " is in the document", want.containsKey(field.getName()) ? 1 : 0, 1);
            due.is(field.getName(), field.getInt(null), want.getOrDefault(field.getName(), 99));
        }
        due.is("constants", seen, want.size());
    }

    private static void methods() {
        Set<String> want = new TreeSet<>(Set.of(
                "write 4", "bring 2", "commit 1", "trim 2", "cell 2", "stable 2", "known 1", "committed 1",
                "standing 2"));
        Set<String> names = new TreeSet<>();
        for (String method : want) {
            names.add(method.substring(0, method.indexOf(' ')));
        }
        Set<String> got = new TreeSet<>();
        for (Method method : TentativeLog.class.getDeclaredMethods()) {
            if (Modifier.isPrivate(method.getModifiers())) {
                due.is("private methods named " + method.getName(), names.contains(method.getName()) ? 1 : 0, 0);
                continue;
            }
            got.add(method.getName() + " " + method.getParameterCount());
            due.is("modifiers of " + method.getName(), method.getModifiers(), Modifier.PUBLIC);
            due.is(method.getName() + " answers an int", method.getReturnType() == int.class ? 1 : 0, 1);
            for (Class<?> type : method.getParameterTypes()) {
                due.is(method.getName() + " takes ints", type == int.class ? 1 : 0, 1);
            }
        }
        due.is("the methods in sight are the document's: " + got, got.equals(want) ? 1 : 0, 1);
    }

    private static void constructor() {
        Constructor<?>[] all = TentativeLog.class.getDeclaredConstructors();
        due.is("constructors", all.length, 1);
        due.is("the constructor is public", all[0].getModifiers(), Modifier.PUBLIC);
        due.is("the constructor's parameters", all[0].getParameterCount(), 1);
        due.is("the constructor takes an int", all[0].getParameterTypes()[0] == int.class ? 1 : 0, 1);
    }
}
