import java.lang.reflect.Constructor;
import java.lang.reflect.Field;
import java.lang.reflect.Method;
import java.lang.reflect.Modifier;
import java.util.ArrayList;
import java.util.Collections;
import java.util.HashSet;
import java.util.List;
import java.util.Set;

/** The face: just the constants, the constructor and the methods that the document names. */
public final class FaceTest {
    private static final Checks T = new Checks("FaceTest");
    private static final String[] METHODS = {
        "boolean hasCycle()", "boolean isAlive()", "boolean isInOrder()", "boolean isInTree(int)",
        "boolean isSafe(int)", "boolean isWall(int)", "boolean setWall(int,boolean)", "int bodyAt(int)",
        "int cellAt(int)", "int cellAtByRings(int)", "int end()", "int feed(int)", "int feeds()", "int fewest()",
        "int fewestByBodies()", "int length()", "int livesFor(int)", "int owed()", "int placeOf(int)",
        "int play(int)", "int reach()", "int setLink(int,int)", "int step(int)", "void begin(int,int)"};

    public static void main(String[] args) {
        T.due("NONE", Coilworm.NONE, -1);
        T.due("public and final", Modifier.toString(Coilworm.class.getModifiers()), "public final");
        methods();
        fields();
        constructors();
        classesInside();
        T.close();
    }

    private static void methods() {
        List<String> open = new ArrayList<>();
        Set<String> openNames = new HashSet<>();
        for (Method m : Coilworm.class.getDeclaredMethods()) {
            if (!m.isSynthetic() && !Modifier.isPrivate(m.getModifiers())) {
                T.due(m + " is", Modifier.toString(m.getModifiers()), "public");
                open.add(signature(m));
                openNames.add(m.getName());
            }
        }
        Collections.sort(open);
        T.due("public methods", String.join("; ", open), String.join("; ", METHODS));
        for (Method m : Coilworm.class.getDeclaredMethods()) {
            boolean bearsPublicName = Modifier.isPrivate(m.getModifiers()) && openNames.contains(m.getName());
            T.due("private method with a public name: " + m, bearsPublicName, false);
        }
    }

    private static String signature(Method m) {
        List<String> types = new ArrayList<>();
        for (Class<?> type : m.getParameterTypes()) {
            types.add(type.getSimpleName());
        }
        return m.getReturnType().getSimpleName() + " " + m.getName() + "(" + String.join(",", types) + ")";
    }

    private static void fields() {
        List<String> open = new ArrayList<>();
        for (Field f : Coilworm.class.getDeclaredFields()) {
            if (!f.isSynthetic() && !Modifier.isPrivate(f.getModifiers())) {
                open.add(f.toString());
            }
            boolean isState = Modifier.isStatic(f.getModifiers()) && !Modifier.isFinal(f.getModifiers());
            T.due("static state: " + f, isState, false);
        }
        T.due("public fields", String.join("; ", open), "public static final int Coilworm.NONE");
    }

    private static void constructors() {
        List<String> all = new ArrayList<>();
        for (Constructor<?> c : Coilworm.class.getDeclaredConstructors()) {
            all.add(c.toString());
        }
        T.due("constructors", String.join("; ", all), "public Coilworm()");
    }

    private static void classesInside() {
        for (Class<?> inside : Coilworm.class.getDeclaredClasses()) {
            int modifiers = inside.getModifiers();
            T.due(inside + " is private", Modifier.isPrivate(modifiers), true);
            T.due(inside + " is static", Modifier.isStatic(modifiers), true);
        }
        T.due("few classes inside", Coilworm.class.getDeclaredClasses().length <= 11, true);
    }
}
