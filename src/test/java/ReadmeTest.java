import java.lang.reflect.Method;
import java.nio.file.Files;
import java.nio.file.Path;
import java.util.regex.Matcher;
import java.util.regex.Pattern;

/** The calls that README.md shows under 'Use' answer what it tells behind them. */
public final class ReadmeTest {
    private static final Pattern CALL = Pattern.compile("x\\.(\\w+)\\((.*?)\\); +// (-?\\d+)(:.*)?");
    private static final String MADE = "WallShifts x = new WallShifts();";

    public static void main(String[] args) throws Exception {
        WallShifts x = new WallShifts();
        for (String line : example(Files.readString(Path.of("README.md")))) {
            Matcher call = CALL.matcher(line);
            if (call.matches()) {
                long answer = answer(x, call.group(1), call.group(2));
                Due.due("README.md: " + line, answer, Long.parseLong(call.group(3)));
            } else {
                boolean says = line.isBlank() || line.startsWith("//") || line.equals(MADE);
                Due.due("README.md shows a call that can be asked: " + line, says ? 1 : 0, 1);
            }
        }
        Due.end("ReadmeTest");
    }

    private static String[] example(String readme) {
        Matcher block = Pattern.compile("(?s)```java\n(.*?)```").matcher(readme);
        return block.find() ? block.group(1).split("\n") : new String[0];
    }

    private static long answer(WallShifts x, String name, String arguments) throws Exception {
        for (Method one : WallShifts.class.getMethods()) {
            if (one.getName().equals(name)) {
                return ((Number) one.invoke(x, numbers(arguments, one.getParameterTypes()))).longValue();
            }
        }
        throw new IllegalStateException("README.md shows a call that isn't there: " + name);
    }

    private static Object[] numbers(String arguments, Class<?>[] types) {
        String[] each = arguments.isEmpty() ? new String[0] : arguments.split(", ");
        Object[] numbers = new Object[each.length];
        for (int i = 0; i < each.length; i++) {
            boolean isLong = i < types.length && types[i] == long.class;
            numbers[i] = isLong ? (Object) Long.decode(each[i]) : (Object) Integer.decode(each[i]);
        }
        return numbers;
    }
}
