import java.lang.reflect.Constructor;
import java.lang.reflect.Field;
import java.lang.reflect.Method;
import java.lang.reflect.Modifier;
import java.util.Arrays;
import java.util.List;
import java.util.Set;
import java.util.TreeSet;

/** The document's public face, no more and no less. */
public final class FaceTest {
    private static final Due DUE = new Due();

    private static final Set<String> METHODS = new TreeSet<>(List.of(
        "depth 0", "atom 1", "quote 1", "connect 1", "truth 1", "expand 1", "revise 1", "update 1", "giveUp 1",
        "forget 2", "merge 2", "copy 2", "holds 2", "count 1", "next 2", "entails 1", "distance 2", "reach 2",
        "matters 2", "defined 3", "primes 1"));

    private static final Set<String> CONSTANTS = new TreeSet<>(List.of("NOT", "AND", "OR", "XOR", "IMPLIES"));

    public static void main(String[] args) {
        constants();
        publicFace();
        DUE.end();
    }

    private static void constants() {
        DUE.due("NOT", BeliefBase.NOT, 0);
        DUE.due("AND", BeliefBase.AND, 1);
        DUE.due("OR", BeliefBase.OR, 2);
        DUE.due("XOR", BeliefBase.XOR, 3);
        DUE.due("IMPLIES", BeliefBase.IMPLIES, 4);
    }

    private static void publicFace() {
        DUE.dueTrue("the class is not public and final",
            Modifier.isPublic(BeliefBase.class.getModifiers()) && Modifier.isFinal(BeliefBase.class.getModifiers()));
        Constructor<?>[] constructors = BeliefBase.class.getDeclaredConstructors();
        DUE.dueTrue("the constructor is not BeliefBase(int) alone", constructors.length == 1
            && Modifier.isPublic(constructors[0].getModifiers())
            && Arrays.equals(constructors[0].getParameterTypes(), new Class<?>[] {int.class}));
        Set<String> methods = new TreeSet<>();
        for (Method method : BeliefBase.class.getDeclaredMethods()) {
            if (!Modifier.isPrivate(method.getModifiers())) {
                methods.add(method.getName() + " " + method.getParameterCount());
                DUE.dueTrue(method + " is not a public method of ints", Modifier.isPublic(method.getModifiers())
                    && !Modifier.isStatic(method.getModifiers()) && method.getReturnType() == int.class
                    && Arrays.stream(method.getParameterTypes()).allMatch(type -> type == int.class));
            }
        }
        DUE.dueTrue("the methods are " + methods + ", not " + METHODS, methods.equals(METHODS));
        Set<String> constants = new TreeSet<>();
        for (Field field : BeliefBase.class.getDeclaredFields()) {
            if (!Modifier.isPrivate(field.getModifiers())) {
                constants.add(field.getName());
                DUE.dueTrue(field + " is not a public constant", Modifier.isPublic(field.getModifiers())
                    && Modifier.isStatic(field.getModifiers()) && Modifier.isFinal(field.getModifiers())
                    && field.getType() == int.class);
            }
        }
        DUE.dueTrue("the constants are " + constants + ", not " + CONSTANTS, constants.equals(CONSTANTS));
    }
}
