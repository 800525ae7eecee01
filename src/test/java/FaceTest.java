import java.lang.reflect.Constructor;
import java.lang.reflect.Field;
import java.lang.reflect.Method;
import java.lang.reflect.Modifier;
import java.util.List;
import java.util.TreeSet;

/** The public face is the document's, and nothing else of the class can be seen. */
public final class FaceTest {
    private static final String[] FACE = {
        "boolean packet(int, int, int, int, int, boolean) throws IllegalArgumentException, IllegalStateException",
        "int tick(int, int) throws IllegalArgumentException",
        "int flush(int) throws IllegalArgumentException",
        "void sampler(int, int) throws IllegalArgumentException",
        "int ended(int, int, int) throws IllegalArgumentException, IndexOutOfBoundsException",
        "int field(int, int, int, int) throws IllegalArgumentException, IllegalStateException",
        "int seal(int, int) throws IllegalArgumentException, IllegalStateException",
        "void withdraw(int, int) throws IllegalArgumentException, IllegalStateException",
        "int restart(int) throws IllegalArgumentException, IllegalStateException",
        "int announce(int, int) throws IllegalArgumentException, IllegalStateException",
        "int report(int) throws IllegalArgumentException, IllegalStateException",
        "int tell(int) throws IllegalArgumentException, IllegalStateException",
        "int size(int)",
        "int byteOf(int, int) throws IndexOutOfBoundsException",
        "void poke(int, int, int) throws IndexOutOfBoundsException, IllegalArgumentException",
        "int hear(int) throws IndexOutOfBoundsException, IllegalArgumentException, UnsupportedOperationException",
        "int rows()",
        "long row(int, int) throws IndexOutOfBoundsException, IllegalArgumentException",
        "long total(int, int, long, int) throws IllegalArgumentException",
        "int other(int) throws IndexOutOfBoundsException",
        "int count(int, int) throws IllegalArgumentException",
    };

    public static void main(String[] args) {
        TreeSet<String> names = new TreeSet<>();
        TreeSet<String> seen = new TreeSet<>();
        for (Method each : FlowShelf.class.getDeclaredMethods()) {
            if (Modifier.isPublic(each.getModifiers())) {
                seen.add(signature(each));
                names.add(each.getName());
            }
        }
        Checks.due("public methods", String.join("; ", new TreeSet<>(List.of(FACE))), String.join("; ", seen));
        for (Method each : FlowShelf.class.getDeclaredMethods()) {
            if (!Modifier.isPublic(each.getModifiers())) {
                hidden(each.getName(), each.getModifiers());
                Checks.due("private " + each.getName() + " bears a public name", false, names.contains(each.getName()));
            }
        }
        for (Field each : FlowShelf.class.getDeclaredFields()) {
            hidden(each.getName(), each.getModifiers());
        }
        Constructor<?>[] made = FlowShelf.class.getDeclaredConstructors();
        Checks.due("constructors", 1, made.length);
        Checks.due("its parameters", 0, made[0].getParameterCount());
        Checks.due("it is public", true, Modifier.isPublic(made[0].getModifiers()));
        Checks.due("the class is public", true, Modifier.isPublic(FlowShelf.class.getModifiers()));
        Checks.due("the class is final", true, Modifier.isFinal(FlowShelf.class.getModifiers()));
        for (Class<?> each : FlowShelf.class.getDeclaredClasses()) {
            Checks.due(each.getName() + " is static", true, Modifier.isStatic(each.getModifiers()));
            Checks.due(each.getName() + " is public", false, Modifier.isPublic(each.getModifiers()));
        }
        Checks.close();
    }

    private static void hidden(String name, int modifiers) {
        Checks.due(name + " is private", true, Modifier.isPrivate(modifiers));
    }

    private static String signature(Method each) {
        StringBuilder text = new StringBuilder();
        text.append(each.getReturnType().getName()).append(' ').append(each.getName()).append('(');
        for (int i = 0; i < each.getParameterTypes().length; i++) {
            text.append(i == 0 ? "" : ", ").append(each.getParameterTypes()[i].getName());
        }
        text.append(')');
        for (int i = 0; i < each.getExceptionTypes().length; i++) {
            text.append(i == 0 ? " throws " : ", ").append(each.getExceptionTypes()[i].getSimpleName());
        }
        return text.toString();
    }
}
