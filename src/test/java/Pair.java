import java.lang.reflect.InvocationTargetException;
import java.lang.reflect.Method;
import java.lang.reflect.Modifier;
import java.util.Arrays;
import java.util.HashMap;
import java.util.Map;

/** An object of the class and an oracle that are asked alike; each two answers are compared. */
final class Pair {
    private static final Map<String, Method> CLASS_CALLS = callsOf(LoneAdjective.class);
    private static final Map<String, Method> ORACLE_CALLS = callsOf(Oracle.class);

    private final LoneAdjective x = new LoneAdjective();
    private final Oracle oracle = new Oracle();
    private final Check check;
    private final String name;
    private int calls;

    Pair(Check check, String name) {
        this.check = check;
        this.name = name;
    }

    private static Map<String, Method> callsOf(Class<?> of) {
        Map<String, Method> all = new HashMap<>();
        for (Method m : of.getDeclaredMethods()) {
            if (!Modifier.isPrivate(m.getModifiers())) all.put(m.getName(), m);
        }
        return all;
    }

    int callsLeft() {
        return Run.PROMISED - calls;
    }

    /** What is due; that the class answered so is checked. */
    int ask(String call, int... arguments) {
        calls++;
        if (calls > Run.PROMISED) throw new AssertionError(name + ": more than " + Run.PROMISED + " calls on one object");
        int due = answer(oracle, ORACLE_CALLS.get(call), arguments);
        check.due(name + " call " + calls + ": " + call + Arrays.toString(arguments), answer(x, CLASS_CALLS.get(call), arguments), due);
        return due;
    }

    /** What is due, without a call of the class: to make up calls that mean something. */
    int peek(String call, int... arguments) {
        return answer(oracle, ORACLE_CALLS.get(call), arguments);
    }

    private static int answer(Object of, Method m, int... arguments) {
        try {
            return (Integer) m.invoke(of, Arrays.stream(arguments).boxed().toArray());
        } catch (InvocationTargetException thrown) {
            throw new AssertionError(m + " threw", thrown.getCause());
        } catch (IllegalAccessException hidden) {
            throw new AssertionError(hidden);
        }
    }

    int feeds(String text) {
        for (int k = 0; k < text.length(); k++) ask("feed", text.charAt(k));
        return ask("town");
    }
}
