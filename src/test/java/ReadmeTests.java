import java.io.IOException;
import java.lang.reflect.InvocationTargetException;
import java.lang.reflect.Method;
import java.lang.reflect.Modifier;
import java.nio.file.Files;
import java.nio.file.Path;
import java.util.TreeSet;
import java.util.regex.Matcher;
import java.util.regex.Pattern;

/** The examples of README.md: each call answers the number that stands behind it, and each call of the face has one. */
public final class ReadmeTests extends Checks {
    private static final Path PAGE = Path.of("README.md");
    private static final String NEW_OBJECT = "AnyLength x = new AnyLength();";
    private static final Pattern BLOCK = Pattern.compile("```java\n(.*?)```", Pattern.DOTALL);
    private static final Pattern CALL = Pattern.compile("x\\.(\\w+)\\(([^)]*)\\); +// (-?\\d+).*");
    private static final TreeSet<String> shown = new TreeSet<>();

    public static void main(String[] args) throws IOException {
        Matcher blocks = BLOCK.matcher(Files.readString(PAGE));
        while (blocks.find()) block(blocks.group(1));
        for (Method m : AnyLength.class.getDeclaredMethods()) {
            if (Modifier.isPublic(m.getModifiers()) && !shown.contains(m.getName())) tellWrong("no example of " + m.getName());
        }
        finish("readme");
    }

    private static void block(String lines) {
        AnyLength x = null;
        for (String line : lines.split("\n")) {
            Matcher call = CALL.matcher(line);
            if (line.equals(NEW_OBJECT)) x = new AnyLength();
            else if (x == null || !call.matches()) tellWrong("not understood: " + line);
            else due(line, answer(x, call.group(1), call.group(2)), Long.parseLong(call.group(3)));
        }
    }

    private static long answer(AnyLength x, String name, String given) {
        String[] told = given.isEmpty() ? new String[0] : given.split(", ");
        for (Method m : AnyLength.class.getDeclaredMethods()) {
            if (!m.getName().equals(name) || m.getParameterCount() != told.length) continue;
            Object[] values = new Object[told.length];
            for (int i = 0; i < told.length; i++) values[i] = value(m.getParameterTypes()[i], told[i]);
            shown.add(name);
            try {
                return ((Number) m.invoke(x, values)).longValue();
            } catch (IllegalAccessException | InvocationTargetException e) {
                tellWrong(name + " threw " + e);
                return 0;
            }
        }
        tellWrong("there is no " + name + " of " + told.length);
        return 0;
    }

    private static Object value(Class<?> type, String told) {
        if (type == boolean.class) return Boolean.valueOf(told);
        if (type == long.class) return Long.valueOf(told);
        return Integer.valueOf(told);
    }
}
