import java.lang.reflect.Method;
import java.nio.file.Files;
import java.nio.file.Path;
import java.util.regex.Matcher;
import java.util.regex.Pattern;

/** The lines of README.md that show how to use the class answer what stands behind them. */
public final class ReadmeTest {
    private static final Pattern FEED = Pattern.compile("feed\\(x, \"([^\"]*)\"\\);");
    private static final Pattern CALL = Pattern.compile("x\\.(\\w+)\\(([^)]*)\\); +// (-?\\d+)(?!\\d).*");
    /** What else may stand among them. */
    private static final Pattern REST = Pattern.compile("|//.*|UnitProver x = new UnitProver\\(\\);.*");

    private static Method named(String name) {
        for (Method m : UnitProver.class.getMethods()) {
            if (m.getDeclaringClass() == UnitProver.class && m.getName().equals(name)) {
                return m;
            }
        }
        throw new IllegalArgumentException(name);
    }

    private static long answer(UnitProver x, String name, String told) throws Exception {
        Method method = named(name);
        Class<?>[] types = method.getParameterTypes();
        Object[] numbers = new Object[types.length];
        for (int i = 0; i < types.length; i++) {
            String number = told.split(", ")[i];
            numbers[i] = types[i] == long.class ? (Object) Long.valueOf(number) : Integer.valueOf(number);
        }
        return ((Number) method.invoke(x, numbers)).longValue();
    }

    public static void main(String[] args) throws Exception {
        Checks c = new Checks("ReadmeTest");
        String text = Files.readString(Path.of("README.md"));
        int start = text.indexOf("```java\n") + "```java\n".length();
        UnitProver x = new UnitProver();
        for (String line : text.substring(start, text.indexOf("```", start)).split("\n")) {
            Matcher feed = FEED.matcher(line);
            Matcher call = CALL.matcher(line);
            if (feed.matches()) {
                Checks.feed(x, feed.group(1));
            } else if (call.matches()) {
                c.due(line.trim(), answer(x, call.group(1), call.group(2)), Long.parseLong(call.group(3)));
            } else {
                c.due("a line that is no call: " + line, REST.matcher(line).matches() ? 1 : 0, 1);
            }
        }
        c.close();
    }
}
