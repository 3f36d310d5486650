import java.lang.reflect.Constructor;
import java.lang.reflect.Field;
import java.lang.reflect.Method;
import java.lang.reflect.Modifier;
import java.util.Arrays;
import java.util.Set;
import java.util.TreeSet;

/** The public face: the class has what the document lists, and nothing else that can be seen. */
public final class PublicFaceTest {
    private static final Class<?> FACE = ColonMachine.class;
    private static final String[] METHODS = {
        "int feed(long, int) throws IllegalArgumentException, IllegalStateException",
        "int run(int) throws IllegalArgumentException",
        "int code()",
        "int pick(int) throws IndexOutOfBoundsException",
        "void push(int) throws IllegalStateException",
        "int peek(int) throws IndexOutOfBoundsException",
        "int told(int)",
        "int out()",
        "long word(int)",
        "int clear()"};
    private static final String[] CONSTANTS = {"int BAD", "int DONE", "int RUNNING", "int ERROR"};

    public static void main(String[] args) {
        Check.of("The public face");
        itself();
        methods();
        constants();
        classesInside();
        Check.end();
    }

    private static void itself() {
        Check.due("the class", Modifier.toString(FACE.getModifiers()), "public final");
        Check.due("what it extends", FACE.getSuperclass().getName(), "java.lang.Object");
        Check.due("what it implements", FACE.getInterfaces().length, 0);
        Check.due("its package", FACE.getPackageName(), "");
        Constructor<?>[] constructors = FACE.getDeclaredConstructors();
        Check.due("constructors", constructors.length, 1);
        Check.due("the constructor", constructors[0].toString(), "public ColonMachine()");
    }

    private static void methods() {
        Set<String> seen = new TreeSet<>();
        Set<String> hidden = new TreeSet<>();
        for (Method method : FACE.getDeclaredMethods()) {
            if (Modifier.isPrivate(method.getModifiers())) {
                hidden.add(method.getName());
                continue;
            }
            Check.due(method.getName(), Modifier.toString(method.getModifiers()), "public");
            seen.add(told(method));
        }
        Check.due("methods", seen.toString(), new TreeSet<>(Arrays.asList(METHODS)).toString());
        for (String method : METHODS) {
            String name = method.substring(method.indexOf(' ') + 1, method.indexOf('('));
            Check.due("a private " + name, "" + hidden.contains(name), "false");
        }
    }

    private static String told(Method method) {
        StringBuilder told = new StringBuilder(method.getReturnType().getSimpleName());
        told.append(' ').append(method.getName());
        told.append('(').append(names(method.getParameterTypes())).append(')');
        Class<?>[] exceptions = method.getExceptionTypes();
        return exceptions.length == 0 ? told.toString()
                : told.append(" throws ").append(names(exceptions)).toString();
    }

    private static String names(Class<?>[] classes) {
        StringBuilder names = new StringBuilder();
        for (Class<?> one : classes) {
            names.append(names.length() == 0 ? "" : ", ").append(one.getSimpleName());
        }
        return names.toString();
    }

    private static void constants() {
        Set<String> seen = new TreeSet<>();
        for (Field field : FACE.getDeclaredFields()) {
            if (Modifier.isPrivate(field.getModifiers())) {
                continue;
            }
            Check.due(field.getName(), Modifier.toString(field.getModifiers()),
                    "public static final");
            seen.add(field.getType().getSimpleName() + " " + field.getName());
        }
        Check.due("constants", seen.toString(),
                new TreeSet<>(Arrays.asList(CONSTANTS)).toString());
        Check.due("their values", ColonMachine.BAD + " " + ColonMachine.DONE + " "
                + ColonMachine.RUNNING + " " + ColonMachine.ERROR, "-1 0 1 2");
    }

    private static void classesInside() {
        for (Class<?> inside : FACE.getDeclaredClasses()) {
            int is = inside.getModifiers();
            Check.due(inside.getSimpleName() + " is static", "" + Modifier.isStatic(is), "true");
            Check.due(inside.getSimpleName() + " is not seen",
                    "" + (Modifier.isPublic(is) || Modifier.isProtected(is)), "false");
        }
    }
}
