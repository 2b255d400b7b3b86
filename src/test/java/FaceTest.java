import java.lang.reflect.Constructor;
import java.lang.reflect.Field;
import java.lang.reflect.Method;
import java.lang.reflect.Modifier;
import java.util.Arrays;
import java.util.Set;
import java.util.TreeSet;

/** The public face is the document's, and nothing else of the class can be seen from outside. */
final class FaceTest {
    private static final String[] FACE = {
        "boolean depends(int, int, int) throws IllegalArgumentException NoSuchElementException",
        "boolean implies(int, int, int) throws IllegalArgumentException",
        "int allFunctions() throws IllegalStateException",
        "int compare() throws IllegalStateException",
        "int feed(int, long) throws IllegalArgumentException IllegalStateException",
        "int functions(int) throws IllegalArgumentException",
        "int greatest(int, int) throws IllegalArgumentException",
        "int leader(int, int) throws IllegalArgumentException",
        "int least(int, int, int) throws IllegalArgumentException",
        "int literal(int, int, int) throws IllegalArgumentException NoSuchElementException",
        "int load(int) throws IllegalArgumentException",
        "int look(int, int) throws IllegalArgumentException",
        "int rises(int, int, int) throws IllegalArgumentException NoSuchElementException",
        "int same(int, int) throws IllegalArgumentException IllegalStateException",
        "int value(int, int, int) throws IllegalArgumentException",
        "int witness(int) throws IllegalStateException NoSuchElementException",
        "int write(int, boolean, boolean) throws IllegalArgumentException",
        "long out(int) throws NoSuchElementException",
    };

    public static void main(String[] args) {
        Set<String> names = new TreeSet<>();
        Set<String> face = new TreeSet<>();
        for (Method method : CircuitTwin.class.getDeclaredMethods()) {
            if (!Modifier.isPrivate(method.getModifiers())) {
                face.add(describe(method));
                names.add(method.getName());
            }
        }
        Check.due("the public methods", new TreeSet<>(Arrays.asList(FACE)), () -> face);
        for (Method method : CircuitTwin.class.getDeclaredMethods()) {
            if (Modifier.isPrivate(method.getModifiers())) {
                Check.due("a private method named " + method.getName(), false, () -> names.contains(method.getName()));
            }
        }
        checkModifiers();
        Check.end();
    }

    private static void checkModifiers() {
        int modifiers = CircuitTwin.class.getModifiers();
        Check.due("public and final", true, () -> Modifier.isPublic(modifiers) && Modifier.isFinal(modifiers));
        Constructor<?>[] constructors = CircuitTwin.class.getDeclaredConstructors();
        Check.due("constructors", 1, () -> constructors.length);
        Check.due("the constructor", "public CircuitTwin()", () -> constructors[0].toString());
        for (Field field : CircuitTwin.class.getDeclaredFields()) {
            Check.due("private " + field.getName(), true, () -> Modifier.isPrivate(field.getModifiers()));
        }
        for (Class<?> inside : CircuitTwin.class.getDeclaredClasses()) {
            int inner = inside.getModifiers();
            Check.due(inside.getName() + " is hidden and static", true, () -> Modifier.isStatic(inner)
                    && !Modifier.isPublic(inner) && !Modifier.isProtected(inner));
        }
    }

    private static String describe(Method method) {
        StringBuilder text = new StringBuilder();
        text.append(method.getReturnType().getSimpleName()).append(' ').append(method.getName()).append('(');
        Class<?>[] parameters = method.getParameterTypes();
        for (int i = 0; i < parameters.length; i++) {
            text.append(i == 0 ? "" : ", ").append(parameters[i].getSimpleName());
        }
        text.append(") throws");
        for (Class<?> thrown : method.getExceptionTypes()) {
            text.append(' ').append(thrown.getSimpleName());
        }
        return text.toString();
    }
}
