import java.lang.reflect.Method;
import java.nio.file.Files;
import java.nio.file.Path;
import java.util.regex.Matcher;
import java.util.regex.Pattern;

/** Makes the calls that README.md shows, in their order, on one object: each answers what stands behind it. */
public final class ReadmeTest {
    private static final Check CHECK = new Check();
    private static final Pattern CALL = Pattern.compile("^plate\\.(\\w+)\\(([^)]*)\\);\\s+// (-?\\d+): ");
    private static final int LEAST_CALLS = 17;

    public static void main(String[] args) throws Exception {
        DropsDance plate = new DropsDance();
        int calls = 0;
        for (String line : Files.readAllLines(Path.of("README.md"))) {
            Matcher m = CALL.matcher(line);
            if (m.find()) {
                calls++;
                String[] told = m.group(2).isEmpty() ? new String[0] : m.group(2).split(", ");
                CHECK.due(line, answer(plate, m.group(1), told), Long.parseLong(m.group(3)));
            } else {
                CHECK.holds("an answer stands behind: " + line, !line.startsWith("plate."));
            }
        }
        CHECK.holds(calls + " calls are shown", calls >= LEAST_CALLS);
        CHECK.end("ReadmeTest");
    }

    private static long answer(DropsDance plate, String name, String[] told) throws Exception {
        for (Method method : DropsDance.class.getMethods()) {
            if (method.getName().equals(name) && method.getParameterCount() == told.length) {
                Object[] arguments = new Object[told.length];
                for (int i = 0; i < told.length; i++) {
                    arguments[i] = argument(method.getParameterTypes()[i], told[i]);
                }
                return ((Number) method.invoke(plate, arguments)).longValue();
            }
        }
        throw new IllegalArgumentException("README.md shows a call that there is not: " + name);
    }

    private static Object argument(Class<?> type, String told) {
        if (type == boolean.class) {
            return Boolean.valueOf(told);
        }
        return type == long.class ? (Object) Long.decode(told.replace("L", "")) : (Object) Integer.valueOf(told);
    }
}
