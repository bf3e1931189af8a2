import java.io.IOException;
import java.lang.reflect.InvocationTargetException;
import java.lang.reflect.Method;
import java.nio.file.Files;
import java.nio.file.Path;
import java.util.regex.Matcher;
import java.util.regex.Pattern;

/** The calls that README.md shows answer what stands behind them there. */
public final class ReadmeTest {
    private static final Pattern CALL = Pattern.compile("x\\.(\\w+)\\((.*)\\); +// (throws \\w+|true|false|-?\\d+).*");
    private static final String MADE = "CommandByTurns x = new CommandByTurns();";

    public static void main(String[] args) throws IOException, ReflectiveOperationException {
        CommandByTurns x = null;
        int calls = 0;
        for (String line : Files.readAllLines(Path.of("README.md"))) {
            Matcher call = CALL.matcher(line);
            if (line.equals(MADE)) {
                x = new CommandByTurns();
            } else if (call.matches()) {
                Check.due(line, answer(x, call.group(1), call.group(2)), call.group(3));
                calls++;
            } else {
                Check.due("a call without its answer: " + line, line.startsWith("x."), false);
            }
        }
        Check.due("the page shows calls", calls > 0, true);
        Check.finish();
    }

    private static String answer(CommandByTurns x, String name, String numbers) throws ReflectiveOperationException {
        String[] texts = numbers.isEmpty() ? new String[0] : numbers.split(", ");
        Class<?>[] types = new Class<?>[texts.length];
        Object[] values = new Object[texts.length];
        for (int i = 0; i < texts.length; i++) {
            types[i] = int.class;
            values[i] = Integer.decode(texts[i]);
        }
        Method method = CommandByTurns.class.getMethod(name, types);
        try {
            return method.invoke(x, values).toString();
        } catch (InvocationTargetException e) {
            return "throws " + e.getCause().getClass().getSimpleName();
        }
    }
}
