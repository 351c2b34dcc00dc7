import java.lang.reflect.Constructor;
import java.lang.reflect.Field;
import java.lang.reflect.Method;
import java.lang.reflect.Modifier;
import java.util.Set;
import java.util.TreeSet;

/** The public face of the document, and rules 1, 2 and 5 of LANGUAGE.md as far as they show in the class file. */
public final class FaceTest {
    private static final Set<String> FACE = Set.of(
        "int statement(int,int,int,int)", "void clear()", "int exchange(int,int)",
        "int set(int,int,int)", "int ramp(int,int,int)", "int run(int,int)", "int get(int,int)",
        "int sum(int)", "int differ(int,int)", "int size()", "boolean mustPrecede(int,int,int)");

    private static final Set<Class<?>> TYPES = Set.of(
        int.class, long.class, short.class, byte.class, char.class, boolean.class,
        int[].class, long[].class, short[].class, byte[].class, char[].class, boolean[].class);

    public static void main(String[] args) {
        constants();
        classAndConstructor();
        methods();
        fields();
        Check.finish();
    }

    private static void constants() {
        Check.due("BAD_ARRAY", LaneLoops.BAD_ARRAY, -1);
        Check.due("BAD_SHIFT", LaneLoops.BAD_SHIFT, -2);
        Check.due("BAD_OP", LaneLoops.BAD_OP, -3);
        Check.due("FULL", LaneLoops.FULL, -4);
        Check.due("BAD_CELL", LaneLoops.BAD_CELL, -5);
    }

    private static void classAndConstructor() {
        int modifiers = LaneLoops.class.getModifiers();
        Check.due("public final class", modifiers, Modifier.PUBLIC | Modifier.FINAL);
        Check.due("nested classes", LaneLoops.class.getDeclaredClasses().length, 0);
        Constructor<?>[] made = LaneLoops.class.getDeclaredConstructors();
        Check.due("constructors", made.length, 1);
        Check.due("constructor is public", Modifier.isPublic(made[0].getModifiers()), true);
        Check.due("constructor's parameters", made[0].getParameterCount(), 0);
    }

    private static void methods() {
        Set<String> seen = new TreeSet<>();
        Set<String> publicNames = new TreeSet<>();
        for (Method method : LaneLoops.class.getDeclaredMethods()) {
            if (!Modifier.isPrivate(method.getModifiers())) {
                seen.add(shapeOf(method));
                publicNames.add(method.getName());
                Check.due(method + " is public", Modifier.isPublic(method.getModifiers()), true);
                Check.due(method + " is static", Modifier.isStatic(method.getModifiers()), false);
            }
        }
        Check.due("the methods are those of the document: " + seen, seen.equals(FACE), true);
        for (Method method : LaneLoops.class.getDeclaredMethods()) {
            Check.due(method + " has few parameters", method.getParameterCount() <= 7, true);
            if (Modifier.isPrivate(method.getModifiers())) {
                Check.due(method + " bears a public name", publicNames.contains(method.getName()), false);
            }
        }
    }

    private static String shapeOf(Method method) {
        StringBuilder shape = new StringBuilder(method.getReturnType() + " " + method.getName() + "(");
        String comma = "";
        for (Class<?> type : method.getParameterTypes()) {
            shape.append(comma).append(type);
            comma = ",";
        }
        return shape.append(")").toString();
    }

    private static void fields() {
        Set<String> seen = new TreeSet<>();
        for (Field field : LaneLoops.class.getDeclaredFields()) {
            int modifiers = field.getModifiers();
            Check.due(field + " has an allowed type", TYPES.contains(field.getType()), true);
            if (Modifier.isStatic(modifiers)) {
                boolean plain = field.getType() == int.class || field.getType() == long.class;
                Check.due(field + " is a constant", plain && Modifier.isFinal(modifiers), true);
            }
            if (!Modifier.isPrivate(modifiers)) {
                seen.add(field.getName());
            }
        }
        Set<String> due = Set.of("BAD_ARRAY", "BAD_SHIFT", "BAD_OP", "FULL", "BAD_CELL");
        Check.due("the fields are those of the document: " + seen, seen.equals(due), true);
    }
}
