import java.io.IOException;
import java.lang.reflect.Method;
import java.nio.file.Files;
import java.nio.file.Path;
import java.util.HashSet;
import java.util.Set;
import java.util.regex.Matcher;
import java.util.regex.Pattern;

/** The calls that README.md shows answer what it says behind them, and every method is among them. */
public final class ReadmeTest {
    private static final Path README = Path.of("README.md");
    private static final Pattern CALL = Pattern.compile("x\\.(\\w+)\\((.*)\\); +// (-?\\d+).*");

    public static void main(String[] args) throws IOException, ReflectiveOperationException {
        Due due = new Due();
        FrequentSets x = new FrequentSets();
        Set<String> shown = new HashSet<>();
        for (String line : Files.readAllLines(README)) {
            Matcher call = CALL.matcher(line);
            if (call.matches()) {
                shown.add(call.group(1));
                due.is(line, ask(x, call.group(1), call.group(2)), Integer.parseInt(call.group(3)));
            } else {
                due.is("a call with no answer: " + line, line.startsWith("x.") ? 1 : 0, 0);
            }
        }
        for (Method method : FrequentSets.class.getMethods()) {
            if (method.getDeclaringClass() == FrequentSets.class) {
                due.is("README shows " + method.getName(), shown.contains(method.getName()) ? 1 : 0, 1);
            }
        }
        due.end();
    }

    private static int ask(FrequentSets x, String name, String arguments) throws ReflectiveOperationException {
        String[] words = arguments.isEmpty() ? new String[0] : arguments.split(", ");
        Class<?>[] types = new Class<?>[words.length];
        Object[] values = new Object[words.length];
        for (int i = 0; i < words.length; i++) {
            types[i] = int.class;
            boolean bits = words[i].startsWith("0b");
            values[i] = bits ? Integer.parseInt(words[i].substring(2), 2) : Integer.parseInt(words[i]);
        }
        return (int) FrequentSets.class.getMethod(name, types).invoke(x, values);
    }
}
