import java.lang.reflect.Constructor;
import java.lang.reflect.Field;
import java.lang.reflect.Method;
import java.lang.reflect.Modifier;
import java.util.TreeSet;

/** The public face is the document's, and nothing else of the class can be seen. */
public final class FaceTest {
    private static final String[] FACE = {
        "boolean packet(int, int, int, int, int, boolean)",
        "int tick(int, int)",
        "int flush(int)",
        "void sampler(int, int)",
        "int ended(int, int, int)",
        "int field(int, int, int, int)",
        "int seal(int, int)",
        "void withdraw(int, int)",
        "int restart(int)",
        "int announce(int, int)",
        "int report(int)",
        "int tell(int)",
        "int size(int)",
        "int byteOf(int, int)",
        "void poke(int, int, int)",
        "int hear(int)",
        "int rows()",
        "long row(int, int)",
        "long total(int, int, long, int)",
        "int other(int)",
        "int count(int, int)",
    };

    public static void main(String[] args) {
        TreeSet<String> names = new TreeSet<>();
        TreeSet<String> seen = new TreeSet<>();
        for (Method each : FlowShelf.class.getDeclaredMethods()) {
            if (Modifier.isPublic(each.getModifiers())) {
                seen.add(signature(each));
                names.add(each.getName());
            }
        }
        Checks.due("public methods", String.join("; ", new TreeSet<>(java.util.List.of(FACE))), String.join("; ", seen));
        for (Method each : FlowShelf.class.getDeclaredMethods()) {
            if (!Modifier.isPublic(each.getModifiers())) {
                hidden(each.getName(), each.getModifiers());
                Checks.due("private " + each.getName() + " bears a public name", false, names.contains(each.getName()));
            }
        }
        for (Field each : FlowShelf.class.getDeclaredFields()) {
            hidden(each.getName(), each.getModifiers());
        }
        Constructor<?>[] made = FlowShelf.class.getDeclaredConstructors();
        Checks.due("constructors", 1, made.length);
        Checks.due("its parameters", 0, made[0].getParameterCount());
        Checks.due("it is public", true, Modifier.isPublic(made[0].getModifiers()));
        Checks.due("the class is public", true, Modifier.isPublic(FlowShelf.class.getModifiers()));
        Checks.due("the class is final", true, Modifier.isFinal(FlowShelf.class.getModifiers()));
        for (Class<?> each : FlowShelf.class.getDeclaredClasses()) {
            Checks.due(each.getName() + " is static", true, Modifier.isStatic(each.getModifiers()));
            Checks.due(each.getName() + " is public", false, Modifier.isPublic(each.getModifiers()));
        }
        Checks.close();
    }

    private static void hidden(String name, int modifiers) {
        Checks.due(name + " is private", true, Modifier.isPrivate(modifiers));
    }

    private static String signature(Method each) {
        StringBuilder text = new StringBuilder();
        text.append(each.getReturnType().getName()).append(' ').append(each.getName()).append('(');
        for (int i = 0; i < each.getParameterTypes().length; i++) {
            text.append(i == 0 ? "" : ", ").append(each.getParameterTypes()[i].getName());
        }
        return text.append(')').toString();
    }
}
