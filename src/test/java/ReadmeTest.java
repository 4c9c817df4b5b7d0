import java.io.IOException;
import java.lang.reflect.Method;
import java.lang.reflect.Modifier;
import java.nio.file.Files;
import java.nio.file.Path;
import java.util.Arrays;
import java.util.regex.Matcher;
import java.util.regex.Pattern;

/** README.md: its example answers as it says, each call and each constant of the face is named there. */
public final class ReadmeTest {
    private static final Pattern WRITTEN = Pattern.compile("String river = \"([^\"]*)\";");
    private static final Pattern CALL = Pattern.compile("x\\.(\\w+)\\(([-\\d, ]*)\\); +// (-?\\d+|[A-Z]+): .*");

    public static void main(String[] args) throws IOException, ReflectiveOperationException {
        String readme = Files.readString(Path.of("README.md"));
        example(readme);
        everyCallIsNamed(readme);
        everyAnswerIsNamed(readme);
        Due.due("README.md names .ci/run", readme.contains(".ci/run") ? 1 : 0, 1);
        Due.end();
    }

    private static void example(String readme) throws ReflectiveOperationException {
        int begin = readme.indexOf("```java\n");
        Due.due("README.md has an example", begin >= 0 ? 1 : 0, 1);
        int end = readme.indexOf("```", begin + 3);
        DareFord x = new DareFord();
        int calls = 0;
        for (String line : readme.substring(begin, end).split("\n")) {
            Matcher written = WRITTEN.matcher(line);
            if (written.matches()) {
                Due.write(x, 0, written.group(1));
            }
            Matcher call = CALL.matcher(line);
            if (call.matches()) {
                Due.due("README.md: " + line, made(x, call.group(1), call.group(2)), told(call.group(3)));
                calls++;
            }
            Due.due("README.md tells what is answered: " + line, line.contains("//") && !call.matches() ? 1 : 0, 0);
        }
        Due.due("README.md has an example of many calls", calls >= 20 ? 1 : 0, 1);
    }

    private static long made(DareFord x, String name, String numbers) throws ReflectiveOperationException {
        String[] told = numbers.isEmpty() ? new String[0] : numbers.split(", *");
        Class<?>[] types = new Class<?>[told.length];
        Arrays.fill(types, int.class);
        Object[] values = Arrays.stream(told).map(Integer::valueOf).toArray();
        return ((Number) DareFord.class.getMethod(name, types).invoke(x, values)).longValue();
    }

    private static long told(String answer) throws ReflectiveOperationException {
        boolean isNumber = answer.matches("-?\\d+");
        return isNumber ? Long.parseLong(answer) : DareFord.class.getField(answer).getInt(null);
    }

    private static void everyCallIsNamed(String readme) {
        for (Method m : DareFord.class.getDeclaredMethods()) {
            if (Modifier.isPublic(m.getModifiers())) {
                int numbers = m.getParameterCount();
                String call = "`" + m.getName() + "\\(" + (numbers == 0 ? "" : "\\w+(, \\w+){" + (numbers - 1) + "}") + "\\)`";
                Due.due("README.md names " + m.getName(), Pattern.compile(call).matcher(readme).find() ? 1 : 0, 1);
            }
        }
    }

    private static void everyAnswerIsNamed(String readme) throws ReflectiveOperationException {
        for (String name : "BAD FULL FINDING STATE SPENT NONE".split(" ")) {
            String named = "| `" + name + "` | " + DareFord.class.getField(name).getInt(null) + " |";
            Due.due("README.md names " + named, readme.contains(named) ? 1 : 0, 1);
        }
    }
}
