import java.lang.reflect.Constructor;
import java.lang.reflect.Field;
import java.lang.reflect.Method;
import java.lang.reflect.Modifier;
import java.util.Set;
import java.util.TreeSet;

/** The class shows the document's face and nothing else, and keeps to the rules that can be seen from outside. */
public final class FaceTest {
    private static final Set<String> FACE = Set.of(
            "public static final int BAD",
            "public SweepPairs()",
            "public int SweepPairs.put(int,int,int)",
            "public int SweepPairs.move(int,int,int)",
            "public int SweepPairs.remove(int)",
            "public int SweepPairs.boxes()",
            "public int SweepPairs.edge(int,int)",
            "public int SweepPairs.partners(int)",
            "public int SweepPairs.pairs()",
            "public int SweepPairs.pair(int)",
            "public int SweepPairs.cluster(int)",
            "public int SweepPairs.clusters()",
            "public int SweepPairs.at(int,int)",
            "public int SweepPairs.deepest()",
            "public int SweepPairs.rank(int,int)",
            "public boolean SweepPairs.within(int,int)");

    public static void main(String[] args) {
        Checks checks = new Checks("FaceTest");
        Class<?> type = SweepPairs.class;
        checks.due("public final", type.getModifiers() == (Modifier.PUBLIC | Modifier.FINAL), true);
        checks.due("no superclass", type.getSuperclass() == Object.class, true);
        checks.due("interfaces", type.getInterfaces().length, 0);
        checks.due("nested classes", type.getDeclaredClasses().length, 0);
        Set<String> shown = shownMembers(type);
        for (String member : FACE) {
            checks.due("shows " + member, shown.contains(member), true);
        }
        for (String member : shown) {
            checks.due("is to show " + member, FACE.contains(member), true);
        }
        checkPrivateParts(checks, type);
        checks.end();
    }

    private static Set<String> shownMembers(Class<?> type) {
        Set<String> shown = new TreeSet<>();
        for (Field field : type.getDeclaredFields()) {
            if (!Modifier.isPrivate(field.getModifiers())) {
                shown.add(Modifier.toString(field.getModifiers()) + " " + field.getType() + " " + field.getName());
            }
        }
        for (Constructor<?> constructor : type.getDeclaredConstructors()) {
            shown.add(constructor.toString());
        }
        for (Method method : type.getDeclaredMethods()) {
            if (!Modifier.isPrivate(method.getModifiers())) {
                shown.add(method.toString());
            }
        }
        return shown;
    }

    private static void checkPrivateParts(Checks checks, Class<?> type) {
        Set<String> publicNames = new TreeSet<>();
        for (Method method : type.getDeclaredMethods()) {
            if (Modifier.isPublic(method.getModifiers())) {
                publicNames.add(method.getName());
            }
        }
        for (Method method : type.getDeclaredMethods()) {
            if (Modifier.isPrivate(method.getModifiers())) {
                checks.due("a public method's name: " + method, publicNames.contains(method.getName()), false);
                checks.due("at most seven parameters: " + method, method.getParameterCount() <= 7, true);
            }
        }
        for (Field field : type.getDeclaredFields()) {
            Class<?> fieldType = field.getType();
            boolean isStatic = Modifier.isStatic(field.getModifiers());
            boolean plain = isStatic
                    ? fieldType == int.class || fieldType == long.class
                    : fieldType.isPrimitive() || fieldType.isArray() && fieldType.getComponentType().isPrimitive();
            checks.due("plain type: " + field, plain, true);
        }
    }
}
