import java.lang.reflect.Constructor;
import java.lang.reflect.Field;
import java.lang.reflect.Method;
import java.lang.reflect.Modifier;
import java.util.TreeSet;

/** The class shows the document's face, and nothing beside it. */
public final class FaceTest {
    private static final String[] FACE = {
        "constant int AMBIGUOUS = 2",
        "constant int FREE = 0",
        "constant int OCCUPIED = 1",
        "constant int UNKNOWN = 3",
        "new()",
        "boolean report(int, int, int) IllegalStateException IllegalArgumentException UnsupportedOperationException",
        "int begin(int, int, int) IllegalArgumentException IllegalStateException",
        "int count(int, int) IllegalArgumentException",
        "int request(int, int) IllegalStateException IllegalArgumentException UnsupportedOperationException",
        "int section() IllegalStateException IndexOutOfBoundsException",
        "int state(int) IllegalStateException IllegalArgumentException",
        "int sub(int) IllegalArgumentException IllegalStateException IndexOutOfBoundsException",
        "int tick(int) IllegalStateException IllegalArgumentException IndexOutOfBoundsException",
        "int train(int, int) IllegalStateException IllegalArgumentException",
        "void clear()",
        "void connect(int, int) IllegalStateException IllegalArgumentException",
        "void detect(int, boolean) IllegalStateException IllegalArgumentException",
        "void leave(int) IllegalStateException IllegalArgumentException UnsupportedOperationException",
    };

    public static void main(String[] args) throws IllegalAccessException {
        int modifiers = TrackKeeper.class.getModifiers();
        Kit.same("public and final", Modifier.isPublic(modifiers) && Modifier.isFinal(modifiers), true);
        TreeSet<String> due = new TreeSet<>();
        for (String line : FACE) {
            due.add(line);
        }
        Kit.same("the face", shown(), due);
        Kit.end();
    }

    private static TreeSet<String> shown() throws IllegalAccessException {
        TreeSet<String> lines = new TreeSet<>();
        for (Field field : TrackKeeper.class.getDeclaredFields()) {
            if (!Modifier.isPrivate(field.getModifiers())) {
                lines.add("constant " + field.getType() + " " + field.getName() + " = " + field.get(null));
            }
        }
        for (Constructor<?> constructor : TrackKeeper.class.getDeclaredConstructors()) {
            lines.add("new" + listed(constructor.getParameterTypes()));
        }
        for (Method method : TrackKeeper.class.getDeclaredMethods()) {
            if (!Modifier.isPrivate(method.getModifiers())) {
                lines.add(signature(method));
            }
        }
        return lines;
    }

    private static String signature(Method method) {
        StringBuilder line = new StringBuilder();
        line.append(method.getReturnType()).append(' ').append(method.getName());
        line.append(listed(method.getParameterTypes()));
        for (Class<?> thrown : method.getExceptionTypes()) {
            line.append(' ').append(thrown.getSimpleName());
        }
        return line.toString();
    }

    private static String listed(Class<?>[] types) {
        StringBuilder line = new StringBuilder("(");
        for (int i = 0; i < types.length; i++) {
            line.append(i == 0 ? "" : ", ").append(types[i]);
        }
        return line.append(')').toString();
    }
}
