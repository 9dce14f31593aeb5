import java.io.IOException;
import java.lang.reflect.Field;
import java.lang.reflect.Method;
import java.lang.reflect.Modifier;
import java.nio.file.Files;
import java.nio.file.Path;
import java.util.ArrayList;
import java.util.List;
import java.util.Map;
import java.util.Set;
import java.util.TreeMap;
import java.util.TreeSet;
import java.util.regex.Matcher;
import java.util.regex.Pattern;

/** The rules of LANGUAGE.md that a look at the source, or at the compiled class, can tell. */
public final class LanguageTest {
    private static final Due DUE = new Due();
    private static final Path SOURCE = Path.of("src/main/java/BeliefBase.java");

    private static final int MOST_LINES = 60;
    private static final int MOST_PARAMETERS = 7;
    private static final int DEEPEST = 6;
    private static final int MOST_FIELDS = 40;

    private static final List<Class<?>> ALLOWED = List.of(
        int.class, long.class, short.class, byte.class, char.class, boolean.class,
        int[].class, long[].class, short[].class, byte[].class, char[].class, boolean[].class);

    private static final String[] FORBIDDEN = {
        "import", "package", "null", "throw", "throws", "try", "catch", "synchronized", "assert", "instanceof",
        "float", "double", "String", "Math", "Integer", "Long", "System", "Arrays", "Object", "enum", "interface",
        "record", "protected", "super", "getClass", "hashCode", "equals", "toString", "->", "::"};

    /** A member with a body, as the source is laid out: its head and its last bracket stand at the first indent. */
    private static final Pattern BODY = Pattern.compile(
        "(?m)^    (?:public|private) [^\n;=]*?(\\w+)\\([^\n]*\\{\n(?s:(.*?))^    \\}$");

    private static final Pattern ARRAY_FIELD = Pattern.compile(
        "private final \\w+\\[\\] \\w+ = new \\w+\\[(?:\\d+|[A-Z_]+)\\];");

    /** A loop that counts its own variable up, one by one, to a bound. */
    private static final Pattern COUNTED = Pattern.compile("for \\(int (\\w+) = 0; \\1 <=? \\w+; \\1\\+\\+\\)");

    public static void main(String[] args) throws IOException {
        String code = Files.readString(SOURCE).replaceAll("(?s)/\\*.*?\\*/", "").replaceAll("//[^\n]*", "");
        Map<String, String> bodies = bodies(code);
        members();
        types();
        words(code);
        arrays(code, bodies);
        loops(code, bodies);
        calls(code, bodies);
        DUE.end();
    }

    private static Map<String, String> bodies(String code) {
        Map<String, String> bodies = new TreeMap<>();
        Matcher body = BODY.matcher(code);
        while (body.find()) {
            DUE.dueTrue("two members are named " + body.group(1), bodies.put(body.group(1), body.group(2)) == null);
        }
        // The constructor is the one more: without this, a member laid out in another way would not be looked at.
        DUE.due("members with a body", bodies.size(), BeliefBase.class.getDeclaredMethods().length + 1);
        return bodies;
    }

    private static void members() {
        DUE.due("rule 1: nested classes", BeliefBase.class.getDeclaredClasses().length, 0);
        Set<String> publicNames = new TreeSet<>();
        for (Method method : BeliefBase.class.getDeclaredMethods()) {
            if (Modifier.isPublic(method.getModifiers())) {
                publicNames.add(method.getName());
            }
        }
        for (Method method : BeliefBase.class.getDeclaredMethods()) {
            if (!Modifier.isPublic(method.getModifiers())) {
                DUE.dueTrue("rule 1: " + method + " is not private", Modifier.isPrivate(method.getModifiers()));
                DUE.dueTrue("rule 1: " + method + " bears a public name", !publicNames.contains(method.getName()));
            }
        }
    }

    private static void types() {
        int fields = 0;
        for (Field field : BeliefBase.class.getDeclaredFields()) {
            DUE.dueTrue("rule 2: " + field + " has a type that is not allowed", ALLOWED.contains(field.getType()));
            boolean constant = Modifier.isFinal(field.getModifiers())
                && (field.getType() == int.class || field.getType() == long.class);
            boolean isStatic = Modifier.isStatic(field.getModifiers());
            DUE.dueTrue("rule 5: " + field + " is static but no constant", !isStatic || constant);
            fields += isStatic ? 0 : 1;
        }
        DUE.dueTrue("rule 10: there are " + fields + " fields", fields <= MOST_FIELDS);
        for (Method method : BeliefBase.class.getDeclaredMethods()) {
            DUE.dueTrue("rule 4: " + method + " answers an array", !method.getReturnType().isArray());
            DUE.dueTrue("rule 10: " + method + " has too many parameters",
                method.getParameterCount() <= MOST_PARAMETERS);
            for (Class<?> type : method.getParameterTypes()) {
                DUE.dueTrue("rule 2: " + method + " takes what is not allowed", ALLOWED.contains(type));
            }
        }
    }

    private static void words(String code) {
        for (String word : FORBIDDEN) {
            String pattern = Character.isLetter(word.charAt(0)) ? "\\b" + word + "\\b" : Pattern.quote(word);
            DUE.dueTrue("rules 2, 3, 6: the program says " + word, !Pattern.compile(pattern).matcher(code).find());
        }
    }

    private static void arrays(String code, Map<String, String> bodies) {
        DUE.due("rule 4: what is made with new, beside the fields' arrays", found("\\bnew\\b", code),
            found(ARRAY_FIELD.pattern(), code));
        bodies.forEach((name, body) -> DUE.due("rule 4: what " + name + " makes", found("\\bnew\\b", body), 0));
    }

    private static void loops(String code, Map<String, String> bodies) {
        DUE.due("rule 8: loops that are not counted up to a bound", found("\\b(?:for|while|do)\\b", code),
            found(COUNTED.pattern(), code));
        bodies.forEach((name, body) -> {
            Matcher loop = COUNTED.matcher(body);
            while (loop.find()) {
                String counter = loop.group(1);
                int counted = found(COUNTED.pattern().replace("(\\w+)", "(" + counter + ")"), body);
                String changed = "\\b" + counter + "(?: (?:[-+*/%&|^]|<<|>>>?)?= |\\+\\+|--)"
                    + "|(?:\\+\\+|--)" + counter + "\\b";
                // Each counted loop sets its counter once and counts it up once.
                DUE.due("rule 8: changes of " + counter + " in " + name, found(changed, body), 2 * counted);
            }
        });
    }

    private static void calls(String code, Map<String, String> bodies) {
        String callStart = "\\b(?!(?:if|for|while|switch|return)\\b)\\w+\\(";
        DUE.due("rule 10: calls inside the arguments of another",
            found(callStart + "[^(){};]*" + callStart, code), 0);
        bodies.forEach((name, body) -> {
            DUE.dueTrue("rule 10: " + name + " is too long", body.lines().count() <= MOST_LINES);
            int depth = deepest(name, bodies, new ArrayList<>());
            DUE.dueTrue("rule 10: calls from " + name + " go " + depth + " deep", depth <= DEEPEST);
        });
    }

    private static int deepest(String name, Map<String, String> bodies, List<String> callers) {
        boolean again = callers.contains(name);
        DUE.dueTrue("rule 8: recursion from " + name + " over " + callers, !again);
        if (again) {
            return 0;
        }
        callers.add(name);
        int below = 0;
        Matcher call = Pattern.compile("\\b(\\w+)\\(").matcher(bodies.get(name));
        while (call.find()) {
            if (bodies.containsKey(call.group(1))) {
                below = Math.max(below, deepest(call.group(1), bodies, callers));
            }
        }
        callers.remove(name);
        return below + 1;
    }

    private static int found(String pattern, String text) {
        return (int) Pattern.compile(pattern).matcher(text).results().count();
    }
}
