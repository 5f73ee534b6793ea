import java.io.IOException;
import java.lang.reflect.InvocationTargetException;
import java.lang.reflect.Method;
import java.lang.reflect.Modifier;
import java.nio.file.Files;
import java.nio.file.Path;
import java.util.Arrays;
import java.util.HashMap;
import java.util.HashSet;
import java.util.Map;
import java.util.Set;
import java.util.regex.Matcher;
import java.util.regex.Pattern;

/** The example of README.md, line by line: each call answers what its comment begins with. */
public final class ReadmeTest {
    private static final Pattern EXAMPLE = Pattern.compile("(?s)```java\n(.*?)```");
    private static final Pattern CALL =
        Pattern.compile("(?:int (\\w+) = )?x\\.(\\w+)\\((.*)\\);\\s+// (-?\\d+)\\b.*");
    private static final Pattern SUM = Pattern.compile("(?:(\\d+) \\* )?(\\w+)(?: \\+ (\\d+))?");
    private static final String MADE = "LearnedReasons x = new LearnedReasons();";

    private final Check check = new Check();
    private final Map<String, Integer> numbers = new HashMap<>();
    private final Set<String> called = new HashSet<>();
    private LearnedReasons x;

    public static void main(String[] args) throws IOException, ReflectiveOperationException {
        ReadmeTest test = new ReadmeTest();
        Matcher example = EXAMPLE.matcher(Files.readString(Path.of("README.md")));
        while (example.find()) {
            for (String line : example.group(1).split("\n")) test.follow(line);
        }
        test.allOfTheFaceIsCalled();
        test.check.end();
    }

    private void follow(String line) throws ReflectiveOperationException {
        Matcher call = CALL.matcher(line);
        if (line.equals(MADE)) {
            x = new LearnedReasons();
        } else if (call.matches()) {
            int answer = answer(call.group(2), call.group(3));
            check.due(line, answer, Integer.parseInt(call.group(4)));
            if (call.group(1) != null) numbers.put(call.group(1), answer);
        } else {
            check.that("a line that can be followed: " + line, line.isEmpty());
        }
    }

    private int answer(String name, String arguments)
            throws NoSuchMethodException, IllegalAccessException, InvocationTargetException {
        String[] parts = arguments.isEmpty() ? new String[0] : arguments.split(", ");
        Class<?>[] types = new Class<?>[parts.length];
        Object[] values = new Object[parts.length];
        Arrays.fill(types, int.class);
        for (int i = 0; i < parts.length; i++) values[i] = sum(parts[i]);
        called.add(name);
        return (int) LearnedReasons.class.getMethod(name, types).invoke(x, values);
    }

    private int sum(String text) {
        Matcher sum = SUM.matcher(text);
        if (!sum.matches()) throw new IllegalArgumentException(text);
        int times = sum.group(1) == null ? 1 : Integer.parseInt(sum.group(1));
        int more = sum.group(3) == null ? 0 : Integer.parseInt(sum.group(3));
        Integer named = numbers.get(sum.group(2));
        return times * (named == null ? Integer.parseInt(sum.group(2)) : named) + more;
    }

    private void allOfTheFaceIsCalled() {
        for (Method method : LearnedReasons.class.getDeclaredMethods()) {
            boolean isOpen = Modifier.isPublic(method.getModifiers());
            check.that(method + " is in the example", !isOpen || called.contains(method.getName()));
        }
    }
}
