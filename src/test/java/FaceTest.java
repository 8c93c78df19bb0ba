import java.lang.reflect.Constructor;
import java.lang.reflect.Field;
import java.lang.reflect.Method;
import java.lang.reflect.Modifier;
import java.util.Arrays;
import java.util.Set;
import java.util.TreeSet;

// The class has the public face of the document and no other member that can be seen from outside,
// and its fields are of the kinds that LANGUAGE.md leaves.
public final class FaceTest {
    private static final Set<String> FACE = Set.of(
        "int nodes()", "int edge(int, int, int)", "int start(int, int)", "int program(int)", "int method(int)",
        "void schedule(int)", "int edges()", "int degree(int)", "int parts()", "int state(int, int)",
        "int sum(int)", "int kinds(int)", "int settled()", "int changes(int)", "int reached(int, int)",
        "int overhead(int)");

    public static void main(String[] args) {
        classIsAsDue();
        methodsAreAsDue();
        fieldsAreAsDue();
        Due.end();
    }

    private static void classIsAsDue() {
        Class<?> type = SafeSync.class;
        Due.holds(Modifier.isPublic(type.getModifiers()), "the class is public");
        Due.holds(Modifier.isFinal(type.getModifiers()), "the class is final");
        Due.holds(type.getSuperclass() == Object.class, "the class extends nothing");
        Due.holds(type.getInterfaces().length == 0, "the class implements nothing");
        Due.holds(type.getDeclaredClasses().length == 0, "there is no nested class");
        Constructor<?>[] constructors = type.getDeclaredConstructors();
        Due.holds(constructors.length == 1, "there is one constructor");
        Due.holds(Modifier.isPublic(constructors[0].getModifiers()), "the constructor is public");
        Due.holds(Arrays.equals(constructors[0].getParameterTypes(), new Class<?>[] {int.class}), "it takes an int");
    }

    private static void methodsAreAsDue() {
        Set<String> seen = new TreeSet<>();
        Set<String> publicNames = new TreeSet<>();
        for (Method method : SafeSync.class.getDeclaredMethods()) {
            if (!Modifier.isPrivate(method.getModifiers())) {
                Due.holds(Modifier.isPublic(method.getModifiers()), method + " is public or private");
                Due.holds(!Modifier.isStatic(method.getModifiers()), method + " is not static");
                seen.add(signature(method));
                publicNames.add(method.getName());
            }
        }
        Due.holds(seen.equals(FACE), "the public methods " + seen + " are those of the document");
        for (Method method : SafeSync.class.getDeclaredMethods()) {
            Due.holds(!Modifier.isPrivate(method.getModifiers()) || !publicNames.contains(method.getName()),
                method + " does not bear the name of a public method");
            Due.holds(method.getParameterCount() <= 7, method + " takes at most seven parameters");
        }
    }

    private static String signature(Method method) {
        StringBuilder out = new StringBuilder();
        for (Class<?> parameter : method.getParameterTypes()) {
            out.append(out.length() == 0 ? "" : ", ").append(parameter.getName());
        }
        return method.getReturnType().getName() + " " + method.getName() + "(" + out + ")";
    }

    private static void fieldsAreAsDue() {
        Set<Class<?>> numbers = Set.of(int.class, long.class, short.class, byte.class, char.class, boolean.class);
        for (Field field : SafeSync.class.getDeclaredFields()) {
            Class<?> type = field.getType();
            Due.holds(Modifier.isPrivate(field.getModifiers()), field + " is private");
            if (Modifier.isStatic(field.getModifiers())) {
                Due.holds(Modifier.isFinal(field.getModifiers()), field + " is a constant");
                Due.holds(type == int.class || type == long.class, field + " is an int or a long");
            } else {
                Due.holds(numbers.contains(type) || type.isArray() && numbers.contains(type.getComponentType()),
                    field + " is a number or an array of numbers");
            }
        }
    }
}
