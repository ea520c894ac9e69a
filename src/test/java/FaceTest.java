import java.lang.reflect.Constructor;
import java.lang.reflect.Field;
import java.lang.reflect.Method;
import java.lang.reflect.Modifier;
import java.util.Arrays;
import java.util.Set;
import java.util.TreeSet;

/** The public face: just the constants, the constructor and the methods of the document. */
public final class FaceTest {
    private static final String[] CONSTANTS = {"NUMBER 1", "RECORD 2", "UNSET 4", "UNDER 1", "OVER 2", "KIND 4",
        "LEAVES 8", "SAFE 0", "UNSAFE 1", "EMPTY 2", "IDLE 0", "RUNNING 1", "STOPPED 2", "EXHAUSTED 3"};
    private static final String[] METHODS = {"int emit[int, int]", "int patch[int, int, int]", "void clear[]",
        "int length[]", "int verdict[]", "int faults[int]", "int heights[int]", "int kinds[int, int, int]",
        "int distance[int]", "boolean start[int]", "int step[int]", "int status[]", "int position[]",
        "int height[]", "int records[]", "int cell[int]"};

    private FaceTest() {
    }

    public static void main(String[] args) throws IllegalAccessException {
        int modifiers = PathJudge.class.getModifiers();
        Due.holds("the class is public and final", Modifier.isPublic(modifiers) && Modifier.isFinal(modifiers));
        Due.is("nested classes", 0, PathJudge.class.getDeclaredClasses().length);
        constants();
        constructors();
        methods();
        Due.end();
    }

    private static void isSet(String what, String[] want, Set<String> got) {
        Due.holds(what + ": due are " + new TreeSet<>(Arrays.asList(want)) + ", found are " + got,
                got.equals(new TreeSet<>(Arrays.asList(want))));
    }

    private static void constants() throws IllegalAccessException {
        Set<String> found = new TreeSet<>();
        for (Field field : PathJudge.class.getDeclaredFields()) {
            int modifiers = field.getModifiers();
            if (!Modifier.isPrivate(modifiers)) {
                found.add(field.getName() + " " + field.getInt(null));
                Due.holds(field + " is public", Modifier.isPublic(modifiers));
            }
            if (Modifier.isStatic(modifiers)) {
                Due.holds(field + " is a constant", Modifier.isFinal(modifiers) && field.getType() == int.class);
            }
        }
        isSet("constants", CONSTANTS, found);
    }

    private static void constructors() {
        Constructor<?>[] found = PathJudge.class.getDeclaredConstructors();
        Due.is("constructors", 1, found.length);
        Due.holds("PathJudge(int, int) is public", Modifier.isPublic(found[0].getModifiers())
                && Arrays.toString(found[0].getParameterTypes()).equals("[int, int]"));
    }

    private static void methods() {
        Set<String> found = new TreeSet<>();
        Set<String> names = new TreeSet<>();
        for (Method method : PathJudge.class.getDeclaredMethods()) {
            if (!Modifier.isPrivate(method.getModifiers())) {
                Due.is(method + " is public and no more", Modifier.PUBLIC, method.getModifiers());
                found.add(method.getReturnType() + " " + method.getName()
                        + Arrays.toString(method.getParameterTypes()));
                names.add(method.getName());
            }
        }
        isSet("methods", METHODS, found);
        for (Method method : PathJudge.class.getDeclaredMethods()) {
            boolean hidden = Modifier.isPrivate(method.getModifiers());
            Due.holds(method + " has a name of its own", !hidden || !names.contains(method.getName()));
        }
    }
}
