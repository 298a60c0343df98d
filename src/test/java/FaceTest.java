import java.lang.reflect.Constructor;
import java.lang.reflect.Field;
import java.lang.reflect.Method;
import java.lang.reflect.Modifier;
import java.util.ArrayList;
import java.util.List;
import java.util.TreeSet;

/** The class shows the document's face and nothing else. */
public final class FaceTest {
    private static final String ELEMENT = "NoSuchElementException";
    private static final String ARGUMENT = "IllegalArgumentException";
    private static final String STATE = "IllegalStateException";

    private FaceTest() {
    }

    public static void main(String[] args) {
        Class<?> face = FlowMixer.class;
        Checks.due("modifiers", Modifier.toString(face.getModifiers()), "public final");
        Checks.due("methods", shownMethods(face), dueMethods());
        Checks.due("fields", shownFields(face), List.of("public static final int NONE"));
        Constructor<?>[] constructors = face.getDeclaredConstructors();
        Checks.due("constructors", constructors.length, 1);
        Checks.due("constructor", constructors[0].toString(), "public FlowMixer()");
        for (Class<?> inner : face.getDeclaredClasses()) {
            boolean hidden = !Modifier.isPublic(inner.getModifiers()) && !Modifier.isProtected(inner.getModifiers());
            Checks.due(inner.getName() + " is hidden", hidden, true);
            Checks.due(inner.getName() + " is static", Modifier.isStatic(inner.getModifiers()), true);
        }
        Checks.end();
    }

    private static TreeSet<String> dueMethods() {
        return new TreeSet<>(List.of(
                "int node(int,int,int) " + ELEMENT + " " + STATE,
                "int assign(int,int,int) " + ELEMENT + " " + STATE,
                "void jump(int,int,int,int,int) " + ELEMENT,
                "int clear(int) " + ELEMENT,
                "int input(int,int) " + ELEMENT,
                "boolean run(int) " + ARGUMENT,
                "boolean follow(int) " + ARGUMENT + " " + STATE,
                "int result(int) " + ARGUMENT,
                "int divide(int) " + ARGUMENT,
                "int live(int) " + ELEMENT,
                "int mix(int) " + ARGUMENT,
                "int compress() " + STATE,
                "int about(int,int) " + ELEMENT + " " + ARGUMENT,
                "int sign(int) " + ELEMENT,
                "int count(int) " + ARGUMENT));
    }

    private static TreeSet<String> shownMethods(Class<?> face) {
        TreeSet<String> shown = new TreeSet<>();
        for (Method method : face.getDeclaredMethods()) {
            if (Modifier.isPrivate(method.getModifiers())) {
                continue;
            }
            StringBuilder text = new StringBuilder();
            text.append(method.getReturnType()).append(' ').append(method.getName()).append('(');
            for (int i = 0; i < method.getParameterCount(); i++) {
                text.append(i == 0 ? "" : ",").append(method.getParameterTypes()[i]);
            }
            text.append(')');
            for (Class<?> thrown : method.getExceptionTypes()) {
                text.append(' ').append(thrown.getSimpleName());
            }
            shown.add(text.toString());
        }
        return shown;
    }

    private static List<String> shownFields(Class<?> face) {
        List<String> shown = new ArrayList<>();
        for (Field field : face.getDeclaredFields()) {
            if (!Modifier.isPrivate(field.getModifiers())) {
                String modifiers = Modifier.toString(field.getModifiers());
                shown.add(modifiers + " " + field.getType() + " " + field.getName());
            }
        }
        return shown;
    }
}
