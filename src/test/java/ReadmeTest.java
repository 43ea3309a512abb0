import java.io.IOException;
import java.lang.reflect.InvocationTargetException;
import java.lang.reflect.Method;
import java.lang.reflect.Modifier;
import java.nio.file.Files;
import java.nio.file.Path;
import java.util.regex.Matcher;
import java.util.regex.Pattern;

/** What README.md says of the class: its example answers so, and its table names every call. */
public final class ReadmeTest {
    private static final Path README = Path.of("README.md");
    private static final Pattern FED = Pattern.compile("feed\\(x, \"([^\"]*)\"\\);");
    private static final Pattern CALLED = Pattern.compile("x\\.(\\w+)\\(([^)]*)\\); +// (-?\\d+)\\b.*");
    private static final Bench B = new Bench("readme");

    public static void main(String[] args) throws IOException, IllegalAccessException, InvocationTargetException {
        String text = Files.readString(README);
        int calls = 0;
        for (String line : text.split("\n")) {
            Matcher fed = FED.matcher(line);
            Matcher called = CALLED.matcher(line);
            if (fed.matches()) {
                B.feed(fed.group(1));
            } else if (called.matches()) {
                B.due(line, answer(called.group(1), called.group(2)), Long.parseLong(called.group(3)));
                calls++;
            }
        }
        B.due("many calls in the example", calls >= 10 ? 1 : 0, 1);
        for (Method m : OneBreath.class.getDeclaredMethods()) {
            if (Modifier.isPublic(m.getModifiers())) {
                B.due("the table names " + m.getName(), text.contains("`" + m.getName() + "`") ? 1 : 0, 1);
            }
        }
        B.end();
    }

    private static long answer(String name, String told) throws IllegalAccessException, InvocationTargetException {
        String[] parts = told.isEmpty() ? new String[0] : told.split(", ");
        for (Method m : OneBreath.class.getDeclaredMethods()) {
            if (m.getName().equals(name) && m.getParameterCount() == parts.length) {
                Object[] numbers = new Object[parts.length];
                for (int i = 0; i < parts.length; i++) {
                    boolean isLong = m.getParameterTypes()[i] == long.class;
                    numbers[i] = isLong ? (Object) Long.valueOf(parts[i]) : (Object) Integer.valueOf(parts[i]);
                }
                return ((Number) m.invoke(B.x, numbers)).longValue();
            }
        }
        throw new IllegalStateException("no call " + name + "(" + told + ")");
    }
}
