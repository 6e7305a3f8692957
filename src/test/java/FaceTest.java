import java.lang.reflect.Constructor;
import java.lang.reflect.Field;
import java.lang.reflect.Method;
import java.lang.reflect.Modifier;
import java.util.TreeSet;

/** The public face: every constant, constructor and method of the document, and nothing else in sight. */
public final class FaceTest {
    private static final String[] CONSTANTS = {
        "P 2147483647", "REFUSED -1",
        "KIND_ONE 0", "KIND_INPUT 1", "KIND_ADD 2", "KIND_MUL 3", "KIND_CMUL 4",
        "MATRIX_A 0", "MATRIX_B 1", "MATRIX_C 2",
        "POLY_A 0", "POLY_B 1", "POLY_C 2", "POLY_Z 3", "POLY_P 4", "POLY_H 5", "POLY_R 6",
        "INFO_WIRES 0", "INFO_CONSTRAINTS 1", "INFO_COMPILED 2", "INFO_HAS_QUOTIENT 3", "INFO_SATISFIED 4",
        "INFO_KIND 5", "INFO_VALUE 6", "INFO_POINT 7", "INFO_MAX_WIRES 8", "INFO_MAX_CONSTRAINTS 9"
    };
    private static final String[] METHODS = {
        "int addInput 0", "int addGate 3", "int assertEqual 2", "boolean setPoint 2", "int compile 0",
        "boolean setWitness 2", "int solve 0", "int linearForm 2", "int matrixEntry 3", "int columnCoeff 3",
        "int divide 0", "int coeff 2", "int evaluate 2", "int checkAt 1", "int info 2"
    };

    public static void main(String[] args) throws Exception {
        Class<?> c = QapCompiler.class;
        Checks.due("class is public", Modifier.isPublic(c.getModifiers()), true);
        Checks.due("class is final", Modifier.isFinal(c.getModifiers()), true);
        Checks.due("nested classes", c.getDeclaredClasses().length, 0);
        Checks.due("constructors", c.getDeclaredConstructors().length, 1);
        for (Constructor<?> constructor : c.getDeclaredConstructors()) {
            Checks.due("constructor is public", Modifier.isPublic(constructor.getModifiers()), true);
            Checks.due("constructor takes", constructor.getParameterCount(), 2);
            onlyInts(constructor.getParameterTypes());
        }
        constants(c);
        methods(c);
        Checks.finish();
    }

    private static void constants(Class<?> c) throws Exception {
        TreeSet<String> seen = new TreeSet<>();
        for (Field field : c.getDeclaredFields()) {
            int modifiers = field.getModifiers();
            if (Modifier.isStatic(modifiers)) {
                Checks.due(field.getName() + " is final", Modifier.isFinal(modifiers), true);
                boolean number = field.getType() == int.class || field.getType() == long.class;
                Checks.due(field.getName() + " is an int or a long", number, true);
            }
            if (!Modifier.isPrivate(modifiers)) {
                Checks.due(field.getName() + " is public", Modifier.isPublic(modifiers), true);
                Checks.due(field.getName() + " is static", Modifier.isStatic(modifiers), true);
                seen.add(field.getName() + " " + field.get(null));
            }
        }
        Checks.same("constants", seen.toString(), sorted(CONSTANTS));
    }

    private static void methods(Class<?> c) {
        TreeSet<String> seen = new TreeSet<>();
        TreeSet<String> hidden = new TreeSet<>();
        for (Method method : c.getDeclaredMethods()) {
            if (Modifier.isPrivate(method.getModifiers())) {
                hidden.add(method.getName());
                continue;
            }
            Checks.due(method.getName() + " is public", Modifier.isPublic(method.getModifiers()), true);
            Checks.due(method.getName() + " is static", Modifier.isStatic(method.getModifiers()), false);
            onlyInts(method.getParameterTypes());
            seen.add(method.getReturnType() + " " + method.getName() + " " + method.getParameterCount());
        }
        Checks.same("methods", seen.toString(), sorted(METHODS));
        for (String method : METHODS) {
            String name = method.split(" ")[1];
            Checks.due("a private method is called " + name, hidden.contains(name), false);
        }
    }

    private static void onlyInts(Class<?>[] types) {
        for (Class<?> type : types) {
            Checks.due("a parameter is an int", type == int.class, true);
        }
    }

    private static String sorted(String[] names) {
        return new TreeSet<>(java.util.Arrays.asList(names)).toString();
    }
}
