import java.lang.reflect.Method;
import java.lang.reflect.Modifier;
import java.nio.file.Files;
import java.nio.file.Path;
import java.util.Arrays;
import java.util.regex.Matcher;
import java.util.regex.Pattern;

/** README.md tells the truth: its example answers what stands behind each call, and its table names every call. */
public final class ReadmeTest {
    private static final Pattern EXAMPLE = Pattern.compile("(?s)```java\n(.*?)```");
    private static final Pattern CALL = Pattern.compile("desk\\.(\\w+)\\((.*)\\);\\s*// (-?\\d+): .*");

    private static int wrong = 0;

    public static void main(String[] args) throws Exception {
        String readme = Files.readString(Path.of("README.md"));
        int calls = runExample(readme);
        must(calls > 0, "README.md has no example");
        for (Method method : RoadTrace.class.getDeclaredMethods()) {
            if (Modifier.isPublic(method.getModifiers())) {
                must(Pattern.compile("(?m)^\\|.*`" + method.getName() + "\\(.*\\|$").matcher(readme).find(),
                    "README.md does not tell of " + method.getName());
            }
        }
        System.out.println(wrong == 0 ? calls + " calls of README.md answer as it says" : wrong + " faults");
        if (wrong != 0) {
            System.exit(1);
        }
    }

    private static void must(boolean holds, String what) {
        if (!holds) {
            wrong++;
            System.out.println(what);
        }
    }

    private static int runExample(String readme) throws ReflectiveOperationException {
        Matcher example = EXAMPLE.matcher(readme);
        if (!example.find()) {
            return 0;
        }
        RoadTrace desk = new RoadTrace();
        int calls = 0;
        for (String line : example.group(1).split("\n")) {
            Matcher call = CALL.matcher(line);
            if (call.matches()) {
                calls++;
                int got = answer(desk, call.group(1), call.group(2));
                must(got == Integer.parseInt(call.group(3)), line + " answered " + got);
            } else {
                must(line.isEmpty() || line.equals("RoadTrace desk = new RoadTrace();"), "no call with its answer: " + line);
            }
        }
        return calls;
    }

    private static int answer(RoadTrace desk, String name, String numbers) throws ReflectiveOperationException {
        Object[] with = numbers.isEmpty() ? new Object[0]
            : Arrays.stream(numbers.split(", ")).map(Integer::valueOf).toArray();
        Class<?>[] types = new Class<?>[with.length];
        Arrays.fill(types, int.class);
        return (int) RoadTrace.class.getMethod(name, types).invoke(desk, with);
    }
}
