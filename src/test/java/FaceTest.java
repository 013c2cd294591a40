import java.lang.reflect.Constructor;
import java.lang.reflect.Field;
import java.lang.reflect.Method;
import java.lang.reflect.Modifier;
import java.util.ArrayList;
import java.util.Arrays;
import java.util.List;
import java.util.Set;
import java.util.TreeSet;

/** The public face: every constant, constructor and method of the document, and no other. */
public final class FaceTest {
    private static final Checks CHECKS = new Checks();
    private static final Set<String> FACE = new TreeSet<>(Arrays.asList(
            "public static final int ADDED = 0", "public static final int LARGEST = 1", "public static final int SMALLEST = 2",
            "public static final int TALLY = 3", "public static final int CHAIN = 4", "public static final int BAD = -1",
            "public static final int FULL = -2", "public static final int GIVEN_UP = -3",
            "public MapReduceRun(int, int)",
            "public int addRecord(int, int, int)", "public boolean mapping(int, int, int)", "public void bounds(int, int)",
            "public boolean failures(boolean, int, int)", "public int run(int)", "public int results(int)",
            "public int keyAt(int, int)", "public int valueAt(int, int)", "public int mapped()", "public int feedBack()",
            "public int emptySplit(int)"));

    public static void main(String[] args) throws IllegalAccessException {
        CHECKS.sentence("The public face");
        Class<?> c = MapReduceRun.class;
        CHECKS.due("public final class MapReduceRun", c.toGenericString().equals("public final class MapReduceRun"), true);
        CHECKS.due("it extends Object alone", c.getSuperclass() == Object.class && c.getInterfaces().length == 0, true);
        Set<String> face = new TreeSet<>();
        for (String member : members(c)) {
            if (!member.startsWith("private ")) {
                face.add(member);
            }
        }
        for (String member : FACE) {
            CHECKS.due("'" + member + "' is there", face.contains(member), true);
        }
        face.removeAll(FACE);
        CHECKS.due("members that are not private and not in the document: " + face, face.isEmpty(), true);
        CHECKS.end();
    }

    private static List<String> members(Class<?> c) throws IllegalAccessException {
        List<String> members = new ArrayList<>();
        for (Field f : c.getDeclaredFields()) {
            String declared = Modifier.toString(f.getModifiers()) + " " + f.getType() + " " + f.getName();
            members.add(Modifier.isPublic(f.getModifiers()) && Modifier.isStatic(f.getModifiers())
                    ? declared + " = " + f.get(null) : declared);
        }
        for (Constructor<?> k : c.getDeclaredConstructors()) {
            members.add(Modifier.toString(k.getModifiers()) + " " + k.getName() + parameters(k.getParameterTypes()));
        }
        for (Method m : c.getDeclaredMethods()) {
            members.add(Modifier.toString(m.getModifiers()) + " " + m.getReturnType() + " " + m.getName()
                    + parameters(m.getParameterTypes()));
        }
        for (Class<?> nested : c.getDeclaredClasses()) {
            members.add(nested.toGenericString());
        }
        return members;
    }

    private static String parameters(Class<?>[] types) {
        return Arrays.toString(types).replace('[', '(').replace(']', ')');
    }
}
