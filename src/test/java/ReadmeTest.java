import java.io.IOException;
import java.lang.reflect.InvocationTargetException;
import java.lang.reflect.Method;
import java.nio.file.Files;
import java.nio.file.Path;
import java.util.regex.Matcher;
import java.util.regex.Pattern;

/** Makes the calls that README.md shows, one behind another, and asks for the answers it tells. */
public final class ReadmeTest {
    private static final Due DUE = new Due("ReadmeTest");
    private static final Pattern TYPED = Pattern.compile("type\\(x, \"([^\"]*)\"\\);");
    private static final Pattern CALLED
        = Pattern.compile("x\\.(\\w+)\\(([-0-9, ]*)\\); *// (-?\\d+).*");

    public static void main(String[] args) throws IOException, ReflectiveOperationException {
        NoDayForIt x = new NoDayForIt();
        int calls = 0;
        for (String line : Files.readAllLines(Path.of("README.md"))) {
            Matcher typed = TYPED.matcher(line);
            Matcher called = CALLED.matcher(line);
            if (typed.matches()) {
                Due.type(x, typed.group(1));
            } else if (called.matches()) {
                long due = Long.parseLong(called.group(3));
                DUE.is(line, answer(x, called.group(1), called.group(2)), due);
                calls++;
            } else {
                DUE.is("each call tells its answer: " + line, line.startsWith("x.") ? 1 : 0, 0);
            }
        }
        DUE.is("README.md shows calls", calls > 20 ? 1 : 0, 1);
        DUE.end();
    }

    private static long answer(NoDayForIt x, String name, String told)
            throws IllegalAccessException, InvocationTargetException {
        String[] numbers = told.isBlank() ? new String[0] : told.split(", *");
        for (Method method : NoDayForIt.class.getMethods()) {
            if (method.getName().equals(name) && method.getParameterCount() == numbers.length) {
                Object[] values = new Object[numbers.length];
                for (int i = 0; i < numbers.length; i++) {
                    values[i] = Integer.valueOf(numbers[i]);
                }
                return ((Number) method.invoke(x, values)).longValue();
            }
        }
        DUE.is("there is a call " + name + " of " + numbers.length + " numbers", 0, 1);
        return NoDayForIt.BAD;
    }
}
