import java.io.IOException;
import java.lang.reflect.Method;
import java.lang.reflect.Modifier;
import java.nio.file.Files;
import java.nio.file.Path;
import java.util.Arrays;
import java.util.Map;
import java.util.TreeMap;
import java.util.regex.Matcher;
import java.util.regex.Pattern;

/** What README.md tells of the class: its example answers as it says, and its table has every call. */
public final class ReadmeTest {
    private static final Due DUE = new Due();
    private static final Pattern EXAMPLE = Pattern.compile("(?s)```java\n(.*?)```");
    private static final Pattern MADE = Pattern.compile("BeliefBase base = new BeliefBase\\((-?\\d+)\\); .*");
    private static final Pattern CALL = Pattern.compile("base\\.(\\w+)\\((.*?)\\); +// (-?\\d+)(?:[: ].*)?");
    private static final Pattern ROW = Pattern.compile("(?m)^\\| `(\\w+)\\((.*?)\\)` \\|");

    public static void main(String[] args) throws IOException, ReflectiveOperationException {
        String readme = Files.readString(Path.of("README.md"));
        Matcher example = EXAMPLE.matcher(readme);
        while (example.find()) {
            run(example.group(1));
        }
        DUE.dueTrue("there is no example", readme.contains("```java"));
        table(readme);
        DUE.end();
    }

    private static void run(String example) throws ReflectiveOperationException {
        BeliefBase base = null;
        for (String line : example.split("\n")) {
            Matcher made = MADE.matcher(line);
            Matcher call = CALL.matcher(line);
            if (made.matches()) {
                base = new BeliefBase(Integer.parseInt(made.group(1)));
            } else if (call.matches() && base != null) {
                int got = answer(base, call.group(1), numbers(call.group(2)));
                DUE.due(call.group(1) + "(" + call.group(2) + ")", got, Integer.parseInt(call.group(3)));
            } else {
                DUE.dueTrue("not a call with its answer: " + line, line.isBlank());
            }
        }
    }

    private static int answer(BeliefBase base, String name, Object[] numbers) throws ReflectiveOperationException {
        Class<?>[] types = new Class<?>[numbers.length];
        Arrays.fill(types, int.class);
        return (int) BeliefBase.class.getMethod(name, types).invoke(base, numbers);
    }

    private static Object[] numbers(String written) throws ReflectiveOperationException {
        String[] parts = written.isEmpty() ? new String[0] : written.split(", ");
        Object[] numbers = new Object[parts.length];
        for (int i = 0; i < parts.length; i++) {
            boolean constant = parts[i].startsWith("BeliefBase.");
            numbers[i] = constant ? BeliefBase.class.getField(parts[i].substring("BeliefBase.".length())).getInt(null)
                : Integer.parseInt(parts[i]);
        }
        return numbers;
    }

    private static void table(String readme) {
        Map<String, Integer> due = new TreeMap<>();
        for (Method method : BeliefBase.class.getDeclaredMethods()) {
            if (Modifier.isPublic(method.getModifiers())) {
                due.put(method.getName(), method.getParameterCount());
            }
        }
        Map<String, Integer> told = new TreeMap<>();
        Matcher row = ROW.matcher(readme);
        while (row.find()) {
            told.put(row.group(1), row.group(2).isEmpty() ? 0 : row.group(2).split(", ").length);
        }
        DUE.dueTrue("the table tells " + told + ", the calls are " + due, told.equals(due));
    }
}
