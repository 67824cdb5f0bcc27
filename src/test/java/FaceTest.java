import java.lang.reflect.Constructor;
import java.lang.reflect.Field;
import java.lang.reflect.Method;
import java.lang.reflect.Modifier;
import java.util.Set;
import java.util.TreeSet;

/** The class shows the document's public face and nothing else, and keeps its arrays to itself. */
public final class FaceTest {
    private static final Set<String> FACE = Set.of(
        "int add(int, int, int, int, int)", "int drop(int)", "int price(int, int)", "int slowest()",
        "int fastest()", "int cost(int)", "int step(int)", "int within(int)", "int total(int)");
    private static int wrong = 0;

    private static void check(String what, boolean holds) {
        if (!holds) {
            wrong++;
            System.out.println("does not hold: " + what);
        }
    }

    private static String signature(Method method) {
        StringBuilder types = new StringBuilder();
        for (Class<?> type : method.getParameterTypes()) {
            types.append(types.length() == 0 ? "" : ", ").append(type.getName());
        }
        return method.getReturnType().getName() + " " + method.getName() + "(" + types + ")";
    }

    private static void checkMethods() {
        Set<String> open = new TreeSet<>();
        Set<String> openNames = new TreeSet<>();
        for (Method method : CrashPlanner.class.getDeclaredMethods()) {
            if (!Modifier.isPrivate(method.getModifiers())) {
                open.add(signature(method));
                openNames.add(method.getName());
                check(method + " is public and not static", Modifier.isPublic(method.getModifiers())
                    && !Modifier.isStatic(method.getModifiers()));
            }
        }
        check("the methods are the document's, not " + open, open.equals(FACE));
        for (Method method : CrashPlanner.class.getDeclaredMethods()) {
            if (Modifier.isPrivate(method.getModifiers())) {
                check(method + " has a name of its own", !openNames.contains(method.getName()));
            }
        }
    }

    private static void checkFields() {
        for (Field field : CrashPlanner.class.getDeclaredFields()) {
            int flags = field.getModifiers();
            check(field + " is private", Modifier.isPrivate(flags));
            if (Modifier.isStatic(flags)) {
                check(field + " is a whole-number constant", Modifier.isFinal(flags)
                    && (field.getType() == int.class || field.getType() == long.class));
            }
        }
    }

    public static void main(String[] args) {
        Class<?> it = CrashPlanner.class;
        check("the class is public and final", Modifier.isPublic(it.getModifiers()) && Modifier.isFinal(it.getModifiers()));
        check("no nested class", it.getDeclaredClasses().length == 0);
        Constructor<?>[] constructors = it.getDeclaredConstructors();
        check("one public constructor without arguments", constructors.length == 1
            && constructors[0].getParameterCount() == 0 && Modifier.isPublic(constructors[0].getModifiers()));
        checkMethods();
        checkFields();
        System.out.println(wrong == 0 ? "the face is as due" : wrong + " faults in the face");
        if (wrong != 0) {
            System.exit(1);
        }
    }
}
