import java.io.IOException;
import java.lang.reflect.InvocationTargetException;
import java.lang.reflect.Method;
import java.lang.reflect.Modifier;
import java.nio.file.Files;
import java.nio.file.Path;
import java.util.List;
import java.util.regex.Matcher;
import java.util.regex.Pattern;

/** What README.md shows: its calls are made, one object for each block, and answer as it says behind them. */
public final class ReadmeTest {
    private static final Check CHECK = new Check("ReadmeTest");
    private static final Pattern CALL = Pattern.compile("x\\.(\\w+)\\(([^)]*)\\);\\s*// (-?\\d+).*");

    public static void main(String[] args) throws IOException, IllegalAccessException, InvocationTargetException {
        List<String> lines = Files.readAllLines(Path.of("README.md"));
        GriddleTurn x = null;
        int calls = 0;
        for (String line : lines) {
            if (line.startsWith("GriddleTurn x = new GriddleTurn();")) {
                x = new GriddleTurn();
            } else if (line.startsWith("x.")) {
                Matcher call = CALL.matcher(line);
                boolean shown = x != null && call.matches();
                CHECK.due("a call and its answer are shown: " + line, 1, shown ? 1 : 0);
                if (shown) {
                    CHECK.due(line, Long.parseLong(call.group(3)), answer(x, call.group(1), call.group(2)));
                    calls++;
                }
            }
        }
        CHECK.due("there are calls", 1, calls > 10 ? 1 : 0);
        everyCallIsNamed(String.join("\n", lines));
        CHECK.end();
    }

    private static long answer(GriddleTurn x, String name, String told)
            throws IllegalAccessException, InvocationTargetException {
        for (Method method : GriddleTurn.class.getDeclaredMethods()) {
            if (Modifier.isPublic(method.getModifiers()) && method.getName().equals(name)) {
                String[] texts = told.isBlank() ? new String[0] : told.split(", ");
                Object[] values = new Object[texts.length];
                for (int i = 0; i < texts.length; i++) {
                    boolean isLong = method.getParameterTypes()[i] == long.class;
                    values[i] = isLong ? (Object) Long.valueOf(texts[i]) : (Object) Integer.valueOf(texts[i]);
                }
                return ((Number) method.invoke(x, values)).longValue();
            }
        }
        throw new IllegalStateException("no such call: " + name);
    }

    private static void everyCallIsNamed(String readme) {
        for (Method method : GriddleTurn.class.getDeclaredMethods()) {
            if (Modifier.isPublic(method.getModifiers())) {
                CHECK.due("named: " + method.getName(), 1, readme.contains("`" + method.getName() + "`") ? 1 : 0);
            }
        }
    }
}
