import java.lang.reflect.Array;
import java.lang.reflect.Constructor;
import java.lang.reflect.Field;
import java.lang.reflect.Method;
import java.lang.reflect.Modifier;
import java.nio.file.Files;
import java.nio.file.Path;
import java.util.ArrayList;
import java.util.Arrays;
import java.util.List;
import java.util.TreeSet;
import java.util.regex.Matcher;
import java.util.regex.Pattern;

/** The face of the document, and of LANGUAGE.md what can be seen by a plain look at the class and its source. */
public final class RulesTest {
    private static final Check C = new Check("RulesTest");
    private static final String FACE = "feed(int) town() fault() told(int) far(int,int) person(int,int) deed(int,int) trust(int,int) "
        + "lets(int) lend(int) act(int) drop() pass(int) drift(int) round(int) two(int) reword(int) chain(int,int,int) lost(int) "
        + "sold(int,int,int) thief(int,int,int,int) vote(int) bestWord() tell(int,int) days() where(int) write(int,int) judge() "
        + "tear() seed(int) keep(int) goBack(int)";

    public static void main(String[] args) throws Exception {
        face();
        hidden();
        String source = Files.readString(Path.of("src/main/java/LoneAdjective.java"));
        words(source);
        signs(source);
        methods(source);
        room(source);
        C.end();
    }

    private static String signature(Method m) {
        List<String> types = new ArrayList<>();
        for (Class<?> type : m.getParameterTypes()) {
            types.add(type.getName());
        }
        return m.getName() + "(" + String.join(",", types) + ")";
    }

    private static void face() {
        Class<?> c = LoneAdjective.class;
        C.holds("public final", Modifier.isPublic(c.getModifiers()) && Modifier.isFinal(c.getModifiers()));
        TreeSet<String> methods = new TreeSet<>();
        for (Method m : c.getDeclaredMethods()) {
            if (!Modifier.isPrivate(m.getModifiers())) {
                methods.add(signature(m));
                C.holds(m + " is public, of the object, answers int",
                    m.getModifiers() == Modifier.PUBLIC && m.getReturnType() == int.class);
            }
        }
        C.holds("the methods of the face: " + methods, methods.equals(new TreeSet<>(Arrays.asList(FACE.split(" ")))));
        TreeSet<String> fields = new TreeSet<>();
        for (Field f : c.getDeclaredFields()) {
            if (!Modifier.isPrivate(f.getModifiers())) {
                fields.add(f.getName());
            }
        }
        C.holds("the constants of the face", fields.equals(new TreeSet<>(List.of("NONE", "UNKNOWN", "OUTSIDE", "NOT", "FULL"))));
        Constructor<?>[] made = c.getDeclaredConstructors();
        C.holds("one constructor", made.length == 1 && made[0].getParameterCount() == 0 && Modifier.isPublic(made[0].getModifiers()));
    }

    private static void hidden() {
        TreeSet<String> open = new TreeSet<>();
        for (String call : FACE.split(" ")) {
            open.add(call.substring(0, call.indexOf('(')));
        }
        List<Class<?>> all = new ArrayList<>(Arrays.asList(LoneAdjective.class.getDeclaredClasses()));
        C.holds("some twelve classes", all.size() <= 11);
        for (Class<?> inside : all) {
            C.holds(inside + " is static", Modifier.isStatic(inside.getModifiers()));
            for (Method m : inside.getDeclaredMethods()) {
                C.holds(m + " has a name of its own", !open.contains(m.getName()));
                C.holds(m + " has seven parameters at most", m.getParameterCount() <= 7);
            }
        }
        for (Method m : LoneAdjective.class.getDeclaredMethods()) {
            C.holds(m + " has a name of its own", Modifier.isPublic(m.getModifiers()) || !open.contains(m.getName()));
        }
        all.add(LoneAdjective.class);
        for (Class<?> each : all) {
            int fields = 0;
            for (Field f : each.getDeclaredFields()) {
                fields += Modifier.isStatic(f.getModifiers()) ? 0 : 1;
                C.holds(f + " is no changing static", !Modifier.isStatic(f.getModifiers()) || Modifier.isFinal(f.getModifiers()));
            }
            C.holds(each + " has some twenty fields", fields <= 20);
        }
    }

    private static void words(String source) {
        String code = source.replaceAll("(?s)/\\*.*?\\*/", " ").replaceAll("//[^\n]*", " ");
        for (String word : "throw throws try catch synchronized assert package Exact Random System.out currentTimeMillis nanoTime Thread @"
            .split(" ")) {
            C.holds("no " + word, !Pattern.compile("(?<![A-Za-z])" + Pattern.quote(word) + "(?![A-Za-z])").matcher(code).find()
                && !code.contains("Exact(") && !code.contains("->") && !code.contains("::"));
        }
        Matcher imports = Pattern.compile("import ([^;]+);").matcher(code);
        while (imports.find()) {
            C.holds("import " + imports.group(1), imports.group(1).equals("java.util.Arrays"));
        }
        C.holds("no array of three dimensions", !code.contains("[][][]"));
    }

    private static void signs(String source) {
        boolean plain = true;
        int longest = 0;
        for (String line : source.split("\n")) {
            longest = Math.max(longest, line.length());
        }
        for (int k = 0; k < source.length(); k++) {
            plain &= source.charAt(k) < 128;
        }
        C.holds("plain signs", plain);
        C.holds("lines of some length", longest <= 140);
    }

    /** From the line that opens a method to the one that closes it, by how far they stand in. */
    private static void methods(String source) {
        String[] lines = source.split("\n");
        for (int k = 0; k < lines.length; k++) {
            Matcher opens = Pattern.compile("( {4}| {8})(?! )(?!.*\\bclass\\b).*\\) \\{").matcher(lines[k]);
            if (opens.matches()) {
                int end = k;
                while (end < lines.length && !lines[end].equals(opens.group(1) + "}")) {
                    end++;
                }
                C.holds("some sixty lines: " + lines[k].trim(), end - k < 60);
            }
        }
    }

    /** Nothing is made but in fields, so that a call makes nothing; what one object has is little. */
    private static void room(String source) throws IllegalAccessException {
        for (String line : source.split("\n")) {
            C.holds("made in a field: " + line.trim(), !line.matches(".*\\bnew\\b.*")
                || line.matches(" +(private )?(final )?[A-Z]?\\w+(\\[\\])* \\w+ = new .*;"));
        }
        List<Object> made = new ArrayList<>();
        int elements = reach(new LoneAdjective(), made);
        C.holds("objects and arrays of one: " + made.size(), made.size() < 150);
        C.holds("fields and elements of one: " + elements, elements < 2000);
    }

    /** Fields and elements of all that can be reached from it. */
    private static int reach(Object from, List<Object> made) throws IllegalAccessException {
        for (Object each : made) {
            if (each == from) return 0;
        }
        made.add(from);
        int count = 0;
        if (from.getClass().isArray()) {
            int length = Array.getLength(from);
            for (int k = 0; k < length && from instanceof Object[]; k++) count += reach(Array.get(from, k), made);
            return count + length;
        }
        for (Class<?> of = from.getClass(); of != Object.class; of = of.getSuperclass()) {
            for (Field f : of.getDeclaredFields()) {
                if (Modifier.isStatic(f.getModifiers())) continue;
                f.setAccessible(true);
                count += 1 + (f.getType().isPrimitive() || f.get(from) == null ? 0 : reach(f.get(from), made));
            }
        }
        return count;
    }
}
