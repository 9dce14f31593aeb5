import java.io.IOException;
import java.lang.reflect.Constructor;
import java.lang.reflect.Field;
import java.lang.reflect.Method;
import java.lang.reflect.Modifier;
import java.nio.file.Files;
import java.nio.file.Path;
import java.util.Arrays;
import java.util.List;
import java.util.Set;
import java.util.TreeSet;
import java.util.regex.Matcher;
import java.util.regex.Pattern;

/** The document's public face, no more and no less, and the language rules that a short look can tell. */
public final class FaceTest {
    private static final Due DUE = new Due();
    private static final Path SOURCE = Path.of("src/main/java/BeliefBase.java");

    private static final Set<String> METHODS = new TreeSet<>(List.of(
        "depth 0", "atom 1", "quote 1", "connect 1", "truth 1", "expand 1", "revise 1", "update 1", "giveUp 1",
        "forget 2", "merge 2", "copy 2", "holds 2", "count 1", "next 2", "entails 1", "distance 2", "reach 2",
        "matters 2", "defined 3", "primes 1"));

    private static final Set<String> CONSTANTS = new TreeSet<>(List.of("NOT", "AND", "OR", "XOR", "IMPLIES"));

    private static final List<Class<?>> ALLOWED = List.of(
        int.class, long.class, short.class, byte.class, char.class, boolean.class,
        int[].class, long[].class, short[].class, byte[].class, char[].class, boolean[].class);

    private static final String[] FORBIDDEN = {
        "import", "package", "null", "throw", "throws", "try", "catch", "synchronized", "assert", "instanceof",
        "float", "double", "String", "Math", "Integer", "Long", "System", "Arrays", "Object", "enum", "interface",
        "record", "protected", "->", "::"};

    public static void main(String[] args) throws IOException {
        constants();
        publicFace();
        privateMembers();
        source();
        DUE.end();
    }

    private static void constants() {
        DUE.due("NOT", BeliefBase.NOT, 0);
        DUE.due("AND", BeliefBase.AND, 1);
        DUE.due("OR", BeliefBase.OR, 2);
        DUE.due("XOR", BeliefBase.XOR, 3);
        DUE.due("IMPLIES", BeliefBase.IMPLIES, 4);
    }

    private static void publicFace() {
        DUE.dueTrue("the class is not public and final",
            Modifier.isPublic(BeliefBase.class.getModifiers()) && Modifier.isFinal(BeliefBase.class.getModifiers()));
        Constructor<?>[] constructors = BeliefBase.class.getDeclaredConstructors();
        DUE.dueTrue("the constructor is not BeliefBase(int) alone", constructors.length == 1
            && Modifier.isPublic(constructors[0].getModifiers())
            && Arrays.equals(constructors[0].getParameterTypes(), new Class<?>[] {int.class}));
        Set<String> methods = new TreeSet<>();
        for (Method method : BeliefBase.class.getDeclaredMethods()) {
            if (!Modifier.isPrivate(method.getModifiers())) {
                methods.add(method.getName() + " " + method.getParameterCount());
                DUE.dueTrue(method + " is not a public method of ints", Modifier.isPublic(method.getModifiers())
                    && !Modifier.isStatic(method.getModifiers()) && method.getReturnType() == int.class
                    && Arrays.stream(method.getParameterTypes()).allMatch(type -> type == int.class));
            }
        }
        DUE.dueTrue("the methods are " + methods + ", not " + METHODS, methods.equals(METHODS));
        Set<String> constants = new TreeSet<>();
        for (Field field : BeliefBase.class.getDeclaredFields()) {
            if (!Modifier.isPrivate(field.getModifiers())) {
                constants.add(field.getName());
                DUE.dueTrue(field + " is not a public constant", Modifier.isPublic(field.getModifiers())
                    && Modifier.isStatic(field.getModifiers()) && Modifier.isFinal(field.getModifiers())
                    && field.getType() == int.class);
            }
        }
        DUE.dueTrue("the constants are " + constants + ", not " + CONSTANTS, constants.equals(CONSTANTS));
    }

    private static void privateMembers() {
        DUE.due("nested classes", BeliefBase.class.getDeclaredClasses().length, 0);
        Set<String> publicNames = new TreeSet<>();
        METHODS.forEach(method -> publicNames.add(method.substring(0, method.indexOf(' '))));
        for (Method method : BeliefBase.class.getDeclaredMethods()) {
            if (Modifier.isPrivate(method.getModifiers())) {
                DUE.dueTrue(method + " bears a public name", !publicNames.contains(method.getName()));
                DUE.dueTrue(method + " has too many parameters", method.getParameterCount() <= 7);
                DUE.dueTrue(method + " answers an array", !method.getReturnType().isArray());
            }
        }
        for (Field field : BeliefBase.class.getDeclaredFields()) {
            DUE.dueTrue(field + " has a type that is not allowed", ALLOWED.contains(field.getType()));
            boolean constant = Modifier.isFinal(field.getModifiers()) && !field.getType().isArray();
            DUE.dueTrue(field + " is static but no constant", !Modifier.isStatic(field.getModifiers()) || constant);
        }
    }

    private static void source() throws IOException {
        String code = Files.readString(SOURCE).replaceAll("(?s)/\\*.*?\\*/", "").replaceAll("//[^\n]*", "");
        for (String word : FORBIDDEN) {
            String pattern = Character.isLetter(word.charAt(0)) ? "\\b" + word + "\\b" : Pattern.quote(word);
            DUE.dueTrue("the program says " + word, !Pattern.compile(pattern).matcher(code).find());
        }
        String callStart = "\\b(?!(?:if|for|while|switch|return)\\b)\\w+\\(";
        Matcher call = Pattern.compile(callStart + "[^(){};]*" + callStart).matcher(code);
        while (call.find()) {
            DUE.dueTrue("a call stands inside the arguments of another: " + call.group(), false);
        }
    }
}
