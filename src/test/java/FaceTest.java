import java.lang.reflect.Constructor;
import java.lang.reflect.Field;
import java.lang.reflect.Method;
import java.lang.reflect.Modifier;
import java.util.Arrays;
import java.util.Set;
import java.util.TreeSet;

/** The class shows the members of the document's face and nothing else. */
public final class FaceTest {
    private static final Set<String> FACE = new TreeSet<>(Arrays.asList(
        "put(int, int)", "take(int)", "lines()", "line(int)", "commit(int)", "checkout(int)", "remove(int)",
        "parent(int)", "distance(int, int)", "changed(int)", "base(int, int)", "find()"));

    public static void main(String[] args) {
        Class<?> type = RevisionStore.class;
        due("the class is public and final", type.getModifiers() == (Modifier.PUBLIC | Modifier.FINAL));
        due("the class has no nested classes", type.getDeclaredClasses().length == 0);
        due("the class extends and implements nothing",
            type.getSuperclass() == Object.class && type.getInterfaces().length == 0);
        Constructor<?>[] constructors = type.getDeclaredConstructors();
        due("one public constructor without parameters", constructors.length == 1
            && constructors[0].getModifiers() == Modifier.PUBLIC && constructors[0].getParameterCount() == 0);
        for (Field field : type.getDeclaredFields()) {
            due("field " + field.getName() + " is private", Modifier.isPrivate(field.getModifiers()));
        }
        methods(type);
        Run.end();
    }

    private static void methods(Class<?> type) {
        Set<String> shown = new TreeSet<>();
        for (Method method : type.getDeclaredMethods()) {
            if (Modifier.isPrivate(method.getModifiers())) {
                continue;
            }
            String parameters = Arrays.toString(method.getParameterTypes()).replace("[", "(").replace("]", ")");
            shown.add(method.getName() + parameters);
            due(method.getName() + " is public and answers an int",
                method.getModifiers() == Modifier.PUBLIC && method.getReturnType() == int.class);
        }
        due("the methods shown are " + shown + ", due are " + FACE, shown.equals(FACE));
    }

    private static void due(String what, boolean holds) {
        if (!holds) {
            Run.wrong("not so: " + what, "the face");
        }
    }
}
