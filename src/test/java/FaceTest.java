import java.lang.reflect.Field;
import java.lang.reflect.Method;
import java.lang.reflect.Modifier;
import java.util.Arrays;
import java.util.Set;
import java.util.TreeSet;

/** The class shows the document's face and nothing else (rules 1, 2 and 5 of LANGUAGE.md). */
public final class FaceTest {
    private static final Answers answers = new Answers();

    private static final Set<String> FACE = Set.of(
        "int join[int, int]", "int part[int, int]", "int most[]", "int spare[int]",
        "int usable[int, int]", "int needed[int, int]", "int guards[]",
        "int mostWithout[int]", "int parts[]");

    public static void main(String[] args) {
        Class<?> face = BlossomDesk.class;
        yes("the class is public and final", face.getModifiers() == (Modifier.PUBLIC | Modifier.FINAL));
        yes("the class extends nothing", face.getSuperclass() == Object.class && face.getInterfaces().length == 0);
        yes("there is no nested class", face.getDeclaredClasses().length == 0);
        yes("there is one constructor", face.getDeclaredConstructors().length == 1);
        yes("the constructor is public and takes nothing",
            face.getConstructors().length == 1 && face.getConstructors()[0].getParameterCount() == 0);
        methods(face);
        fields(face);
        answers.finish();
    }

    private static void methods(Class<?> face) {
        Set<String> shown = new TreeSet<>();
        Set<String> shownNames = new TreeSet<>();
        for (Method method : face.getDeclaredMethods()) {
            if (!Modifier.isPrivate(method.getModifiers())) {
                yes(method + " is public and of the object", method.getModifiers() == Modifier.PUBLIC);
                shown.add(method.getReturnType() + " " + method.getName() + Arrays.toString(method.getParameterTypes()));
                shownNames.add(method.getName());
            }
        }
        yes("the public methods are the document's, not " + shown, shown.equals(new TreeSet<>(FACE)));
        for (Method method : face.getDeclaredMethods()) {
            boolean hidden = Modifier.isPrivate(method.getModifiers());
            yes(method + " bears a name of its own", !hidden || !shownNames.contains(method.getName()));
        }
    }

    private static void fields(Class<?> face) {
        for (Field field : face.getDeclaredFields()) {
            int modifiers = field.getModifiers();
            Class<?> type = field.getType();
            Class<?> cell = type.isArray() ? type.getComponentType() : type;
            yes(field + " is private", Modifier.isPrivate(modifiers));
            yes(field + " is of whole numbers", cell.isPrimitive() && cell != float.class && cell != double.class);
            yes(field + " is a constant if static", !Modifier.isStatic(modifiers)
                || Modifier.isFinal(modifiers) && (type == int.class || type == long.class));
        }
    }

    private static void yes(String what, boolean holds) {
        answers.due(what, 1, holds ? 1 : 0);
    }
}
