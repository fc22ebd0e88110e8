import java.lang.reflect.Constructor;
import java.lang.reflect.Field;
import java.lang.reflect.Method;
import java.lang.reflect.Modifier;
import java.util.Arrays;
import java.util.Set;
import java.util.TreeSet;

/** The class shows the document's public face and nothing more. */
public final class FaceTest {
    private static final Set<String> FACE = Set.of(
            "public static final int BAD",
            "public static final int FULL",
            "public static final int NONE",
            "public FrequentSets()",
            "public int add(int)",
            "public int drop()",
            "public int count(int)",
            "public int frequent(int)",
            "public int closed(int)",
            "public int largest(int)",
            "public int closedSet(int, int)",
            "public int closure(int)",
            "public int widest(int)",
            "public int rules(int, int)",
            "public int companion(int)");

    public static void main(String[] args) {
        Due due = new Due();
        Class<FrequentSets> c = FrequentSets.class;
        due.is("BAD", FrequentSets.BAD, -1);
        due.is("FULL", FrequentSets.FULL, -2);
        due.is("NONE", FrequentSets.NONE, -3);
        due.is("class modifiers", c.getModifiers(), Modifier.PUBLIC | Modifier.FINAL);
        due.is("nested classes", c.getDeclaredClasses().length, 0);
        due.is("interfaces", c.getInterfaces().length, 0);
        due.is("superclass is Object", c.getSuperclass() == Object.class ? 1 : 0, 1);
        Set<String> seen = visibleMembers(c);
        for (String member : FACE) {
            due.is("has " + member, seen.contains(member) ? 1 : 0, 1);
        }
        for (String member : seen) {
            due.is("may have " + member, FACE.contains(member) ? 1 : 0, 1);
        }
        due.end();
    }

    private static Set<String> visibleMembers(Class<?> c) {
        Set<String> seen = new TreeSet<>();
        for (Field f : c.getDeclaredFields()) {
            note(seen, f.getModifiers(), f.getType().getSimpleName() + " " + f.getName());
        }
        for (Constructor<?> k : c.getDeclaredConstructors()) {
            note(seen, k.getModifiers(), c.getSimpleName() + parameters(k.getParameterTypes()));
        }
        for (Method m : c.getDeclaredMethods()) {
            String result = m.getReturnType().getSimpleName();
            note(seen, m.getModifiers(), result + " " + m.getName() + parameters(m.getParameterTypes()));
        }
        return seen;
    }

    private static void note(Set<String> seen, int modifiers, String member) {
        if (!Modifier.isPrivate(modifiers)) {
            seen.add((Modifier.toString(modifiers) + " " + member).trim());
        }
    }

    private static String parameters(Class<?>[] types) {
        String[] names = Arrays.stream(types).map(Class::getSimpleName).toArray(String[]::new);
        return "(" + String.join(", ", names) + ")";
    }
}
