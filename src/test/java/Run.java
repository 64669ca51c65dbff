import java.lang.reflect.InvocationTargetException;
import java.lang.reflect.Method;
import java.util.ArrayList;
import java.util.HashMap;
import java.util.List;
import java.util.Map;
import java.util.regex.Matcher;
import java.util.regex.Pattern;

/**
 * One object and its calls, told in a script: "lend(0) = 0; 90 * pass(999); lend(3) = NOT".
 * A call without an answer is only there to get on, and must not be refused.
 */
final class Run {
    /** Behind so many calls the document promises nothing, so that a test may not ask either. */
    static final int PROMISED = 512;
    private static final Pattern CALL = Pattern.compile("(?:(\\d+) \\* )?(\\w+)\\(([^)]*)\\)(?: = (-?\\w+))?");
    private static final Map<String, Method> FACE = new HashMap<>();

    static {
        for (Method m : LoneAdjective.class.getMethods()) {
            if (m.getDeclaringClass() == LoneAdjective.class) {
                FACE.put(m.getName(), m);
            }
        }
    }

    private final LoneAdjective x = new LoneAdjective();
    private final Check check;
    private final String sentence;
    private String text = "no town";
    private int calls;

    Run(Check check, String sentence) {
        this.check = check;
        this.sentence = sentence;
    }

    int call(String name, int... arguments) {
        calls++;
        if (calls > PROMISED) {
            throw new AssertionError(sentence + ": more than " + PROMISED + " calls on one object");
        }
        Object[] given = new Object[arguments.length];
        for (int k = 0; k < given.length; k++) {
            given[k] = arguments[k];
        }
        try {
            return (Integer) FACE.get(name).invoke(x, given);
        } catch (InvocationTargetException thrown) {
            throw new AssertionError(sentence + ": " + name + " threw", thrown.getCause());
        } catch (IllegalAccessException hidden) {
            throw new AssertionError(hidden);
        }
    }

    Run feeds(String letters) {
        for (int k = 0; k < letters.length(); k++) {
            call("feed", letters.charAt(k));
        }
        return this;
    }

    /** A text without a fault becomes the town. */
    Run town(String letters) {
        text = letters;
        feeds(letters);
        check.holds(sentence + ": town of " + text, call("town") >= 0);
        check.due(sentence + ": fault of " + text, call("fault"), Check.NONE);
        return this;
    }

    /** A text in which ^ stands ahead of the letter that has the fault. */
    Run faulty(int number, String marked) {
        int at = marked.indexOf('^');
        feeds(marked.substring(0, at) + marked.substring(at + 1));
        check.due(sentence + ": town of " + marked, call("town"), -10 - number);
        check.due(sentence + ": fault of " + marked, call("fault"), at);
        check.due(sentence + ": letters behind " + marked, call("told", 4), 0);
        return this;
    }

    Run is(String script) {
        for (String part : script.split(";")) {
            Matcher m = CALL.matcher(part.trim());
            if (!m.matches()) {
                throw new AssertionError(sentence + ": no call: " + part);
            }
            int times = m.group(1) == null ? 1 : Integer.parseInt(m.group(1));
            for (int k = 0; k < times; k++) {
                one(part.trim(), m);
            }
        }
        return this;
    }

    private void one(String part, Matcher m) {
        String[] told = m.group(3).isEmpty() ? new String[0] : m.group(3).split(", *");
        int[] arguments = new int[told.length];
        for (int k = 0; k < told.length; k++) {
            arguments[k] = number(told[k]);
        }
        int got = call(m.group(2), arguments);
        String label = sentence + ": " + part + " (" + text + ")";
        if (m.group(4) == null) {
            check.holds(label + " is not refused", got > Check.UNKNOWN);
        } else {
            check.due(label, got, number(m.group(4)));
        }
    }

    /** The last call was the last one that is promised. */
    void usedUp() {
        check.due(sentence + ": calls", calls, PROMISED);
    }

    private static int number(String s) {
        switch (s) {
            case "NONE": return Check.NONE;
            case "UNKNOWN": return Check.UNKNOWN;
            case "OUTSIDE": return Check.OUTSIDE;
            case "NOT": return Check.NOT;
            case "FULL": return Check.FULL;
            case "MIN": return Integer.MIN_VALUE;
            case "MAX": return Integer.MAX_VALUE;
            default: return Integer.parseInt(s);
        }
    }

    /** All that can be seen of the object, of its images and its text; they are used up by it. */
    List<String> seen() {
        List<String> all = new ArrayList<>();
        int squares = call("told", 0), people = call("told", 1), deeds = call("told", 2), words = call("told", 3);
        for (int a = 0; a < squares; a++) {
            for (int b = a + 1; b < squares; b++) see(all, "far", a, b);
        }
        for (int p = 0; p < people; p++) {
            for (int what = 0; what < 2; what++) see(all, "person", p, what);
            for (int b = 0; b < people; b++) see(all, "trust", p, b);
        }
        for (int i = 0; i < deeds; i++) {
            for (int what = 0; what < 5; what++) see(all, "deed", i, what);
        }
        for (int o = 0; o < words; o++) see(all, "lets", o);
        see(all, "days");
        see(all, "where", 3);
        for (int what = 0; what < 5; what++) see(all, "told", what);
        seeState(all, deeds);
        for (int image = 0; image < 2; image++) {
            see(all, "goBack", image);
            seeState(all, deeds);
        }
        see(all, "town");
        see(all, "fault");
        for (int what = 0; what < 13; what++) see(all, "told", what);
        return all;
    }

    private void seeState(List<String> all, int deeds) {
        for (int what = 5; what < 13; what++) see(all, "told", what);
        for (int i = 0; i < deeds; i++) {
            see(all, "deed", i, 5);
            see(all, "deed", i, 6);
        }
        see(all, "judge");
        see(all, "seed", 3);
    }

    private void see(List<String> all, String name, int... arguments) {
        StringBuilder s = new StringBuilder(name).append('(');
        for (int k = 0; k < arguments.length; k++) {
            s.append(k == 0 ? "" : ", ").append(arguments[k]);
        }
        all.add(s.append(") = ").append(call(name, arguments)).toString());
    }
}
