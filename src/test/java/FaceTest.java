import java.lang.reflect.Constructor;
import java.lang.reflect.Field;
import java.lang.reflect.Method;
import java.lang.reflect.Modifier;
import java.util.Arrays;
import java.util.Set;
import java.util.TreeSet;

/** The public face of the document, and the rules of LANGUAGE.md that can be seen on the compiled class. */
public final class FaceTest {
    private static final Checks CHECKS = new Checks();
    private static final Set<String> FACE = new TreeSet<>(Arrays.asList(
            "int ADDED = 0", "int LARGEST = 1", "int SMALLEST = 2", "int TALLY = 3", "int CHAIN = 4",
            "int BAD = -1", "int FULL = -2", "int GIVEN_UP = -3",
            "MapReduceRun[int, int]",
            "int addRecord[int, int, int]", "boolean mapping[int, int, int]", "void bounds[int, int]",
            "boolean failures[boolean, int, int]", "int run[int]", "int results[int]", "int keyAt[int, int]",
            "int valueAt[int, int]", "int mapped[]", "int feedBack[]", "int emptySplit[int]"));
    private static final Set<Class<?>> NUMBERS =
            Set.of(int.class, long.class, short.class, byte.class, char.class, boolean.class);

    public static void main(String[] args) throws IllegalAccessException {
        Class<?> c = MapReduceRun.class;
        CHECKS.due("the class is public and final", c.getModifiers(), Modifier.PUBLIC | Modifier.FINAL);
        CHECKS.due("nested classes", c.getDeclaredClasses().length, 0);
        Set<String> face = new TreeSet<>();
        fields(c, face);
        constructors(c, face);
        methods(c, face);
        CHECKS.due("the public face " + face, face.equals(FACE), true);
        CHECKS.end();
    }

    private static void fields(Class<?> c, Set<String> face) throws IllegalAccessException {
        int fields = 0;
        for (Field f : c.getDeclaredFields()) {
            int m = f.getModifiers();
            boolean isPublic = Modifier.isPublic(m);
            CHECKS.due(f.getName() + " is public or private", isPublic || Modifier.isPrivate(m), true);
            Class<?> type = f.getType().isArray() ? f.getType().getComponentType() : f.getType();
            CHECKS.due(f.getName() + " is of an allowed type", NUMBERS.contains(type), true);
            if (Modifier.isStatic(m)) {
                CHECKS.due(f.getName() + " is final", Modifier.isFinal(m), true);
                CHECKS.due(f.getName() + " is int or long", f.getType() == int.class || f.getType() == long.class, true);
            } else {
                fields++;
            }
            if (isPublic) {
                face.add(f.getType() + " " + f.getName() + " = " + f.get(null));
            }
        }
        CHECKS.due("at most forty fields", fields <= 40, true);
    }

    private static void constructors(Class<?> c, Set<String> face) {
        for (Constructor<?> k : c.getDeclaredConstructors()) {
            CHECKS.due("the constructor is public", Modifier.isPublic(k.getModifiers()), true);
            face.add(k.getName() + Arrays.toString(k.getParameterTypes()));
        }
    }

    private static void methods(Class<?> c, Set<String> face) {
        Set<String> publicNames = new TreeSet<>();
        Set<String> privateNames = new TreeSet<>();
        for (Method m : c.getDeclaredMethods()) {
            boolean isPublic = Modifier.isPublic(m.getModifiers());
            CHECKS.due(m.getName() + " is public or private", isPublic || Modifier.isPrivate(m.getModifiers()), true);
            CHECKS.due(m.getName() + " takes at most seven", m.getParameterCount() <= 7, true);
            CHECKS.due(m.getName() + " answers no array", m.getReturnType().isArray(), false);
            (isPublic ? publicNames : privateNames).add(m.getName());
            if (isPublic) {
                face.add(m.getReturnType() + " " + m.getName() + Arrays.toString(m.getParameterTypes()));
            }
        }
        privateNames.retainAll(publicNames);
        CHECKS.due("private methods with public names " + privateNames, privateNames.isEmpty(), true);
    }
}
