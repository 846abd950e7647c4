import java.lang.reflect.Constructor;
import java.lang.reflect.Field;
import java.lang.reflect.Method;
import java.lang.reflect.Modifier;
import java.util.Set;
import java.util.TreeSet;

/** The face of the class is the document's, and nothing else is seen of it (rule 1 of LANGUAGE.md). */
final class FaceTest {
    private static final Checks CHECKS = new Checks();
    private static final String INDEX = "IndexOutOfBoundsException";
    private static final String ARGUMENT = "IllegalArgumentException";
    private static final String STATE = "IllegalStateException";

    public static void main(String[] args) {
        CHECKS.due("the class", Modifier.toString(AlumWorks.class.getModifiers()), "public final");
        methods();
        members();
        CHECKS.end("FaceTest");
    }

    private static Set<String> wanted() {
        Set<String> face = new TreeSet<>();
        add(face, "int bring", 2, INDEX, ARGUMENT);
        add(face, "int setRain", 2, INDEX, ARGUMENT);
        add(face, "int setShip", 2, INDEX, ARGUMENT);
        add(face, "int pile", 1, ARGUMENT, STATE);
        add(face, "int light", 2, INDEX, ARGUMENT, STATE);
        add(face, "int dig", 1, ARGUMENT, STATE);
        add(face, "int steep", 2, INDEX, STATE);
        add(face, "int pan", 0, STATE);
        add(face, "int draw", 3, INDEX, ARGUMENT, STATE);
        add(face, "boolean boil", 1, INDEX);
        add(face, "int pour", 2, INDEX, ARGUMENT, STATE);
        add(face, "int clamp", 2, INDEX);
        add(face, "int pit", 2, INDEX);
        add(face, "int about", 2, INDEX);
        add(face, "int count", 1, INDEX);
        add(face, "int pass", 1, ARGUMENT);
        add(face, "int right", 1, INDEX);
        add(face, "int foresee", 2, ARGUMENT, INDEX);
        add(face, "int barrels", 1, INDEX);
        add(face, "int dry", 1, INDEX);
        add(face, "double mean", 0);
        add(face, "long digest", 0);
        return face;
    }

    private static void add(Set<String> face, String name, int numbers, String... thrown) {
        face.add(name + "(" + "int ".repeat(numbers) + ") " + String.join(" ", thrown));
    }

    private static String told(Method method) {
        StringBuilder numbers = new StringBuilder();
        for (Class<?> type : method.getParameterTypes()) {
            numbers.append(type.getSimpleName()).append(' ');
        }
        StringBuilder thrown = new StringBuilder();
        for (Class<?> type : method.getExceptionTypes()) {
            thrown.append(thrown.length() == 0 ? "" : " ").append(type.getSimpleName());
        }
        return method.getReturnType() + " " + method.getName() + "(" + numbers + ") " + thrown;
    }

    private static void methods() {
        Set<String> seen = new TreeSet<>();
        Set<String> names = new TreeSet<>();
        for (Method method : AlumWorks.class.getDeclaredMethods()) {
            if (!Modifier.isPrivate(method.getModifiers())) {
                seen.add(told(method));
                names.add(method.getName());
            }
        }
        CHECKS.due("the methods", seen, wanted());
        for (Method method : AlumWorks.class.getDeclaredMethods()) {
            if (Modifier.isPrivate(method.getModifiers())) {
                CHECKS.due("public name of " + method, names.contains(method.getName()), false);
            }
        }
    }

    private static void members() {
        for (Field field : AlumWorks.class.getDeclaredFields()) {
            CHECKS.due("private " + field, Modifier.isPrivate(field.getModifiers()), true);
            CHECKS.due("final " + field, Modifier.isFinal(field.getModifiers()), true);
        }
        Constructor<?>[] constructors = AlumWorks.class.getDeclaredConstructors();
        CHECKS.due("constructors", constructors.length, 1);
        CHECKS.due("its numbers", constructors[0].getParameterCount(), 0);
        CHECKS.due("public", Modifier.isPublic(constructors[0].getModifiers()), true);
        for (Class<?> inside : AlumWorks.class.getDeclaredClasses()) {
            int modifiers = inside.getModifiers();
            CHECKS.due("static " + inside, Modifier.isStatic(modifiers), true);
            CHECKS.due("public " + inside, Modifier.isPublic(modifiers) || Modifier.isProtected(modifiers), false);
        }
    }
}
