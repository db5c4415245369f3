import java.lang.reflect.Constructor;
import java.lang.reflect.Field;
import java.lang.reflect.Method;
import java.lang.reflect.Modifier;
import java.util.Arrays;
import java.util.TreeSet;

/** The public face: the document's members with their types and values, and no other visible member. */
public final class FaceTest {
    private static final Checks checks = new Checks();

    public static void main(String[] args) throws ReflectiveOperationException {
        checks.due("the class's modifiers", Modifier.toString(RepairRange.class.getModifiers()), "public final");
        checks.due("the number of nested classes", RepairRange.class.getDeclaredClasses().length, 0);
        constants();
        constructors();
        methods();
        checks.end();
    }

    private static void constants() throws IllegalAccessException {
        TreeSet<String> seen = new TreeSet<>();
        for (Field field : RepairRange.class.getDeclaredFields()) {
            if (!Modifier.isPrivate(field.getModifiers())) {
                String modifiers = Modifier.toString(field.getModifiers());
                seen.add(modifiers + " " + field.getType() + " " + field.getName() + " = " + field.get(null));
            }
        }
        TreeSet<String> want = new TreeSet<>(Arrays.asList(
            "public static final int BAD_KEY = -1",
            "public static final int BAD_GROUP = -2",
            "public static final int BAD_VALUE = -3",
            "public static final int FULL = -4",
            "public static final int NO_ROW = -5",
            "public static final int NONE = 1000000"));
        checks.due("the constants", seen.toString(), want.toString());
    }

    private static void constructors() {
        Constructor<?>[] all = RepairRange.class.getDeclaredConstructors();
        checks.due("the constructors", Arrays.toString(all), "[public RepairRange()]");
    }

    private static void methods() {
        TreeSet<String> seen = new TreeSet<>();
        for (Method method : RepairRange.class.getDeclaredMethods()) {
            if (!Modifier.isPrivate(method.getModifiers())) {
                seen.add(method.toString().replace("RepairRange.", ""));
            }
        }
        TreeSet<String> want = new TreeSet<>(Arrays.asList(
            "public int add(int,int,int)",
            "public int remove(int)",
            "public int repairs()",
            "public int countLeast(int)",
            "public int countMost(int)",
            "public int sumLeast(int)",
            "public int sumMost(int)",
            "public int groupsLeast()",
            "public int groupsMost()",
            "public int spreadLeast()",
            "public int middleMost()",
            "public int mixedMost()",
            "public boolean exactly(int)"));
        checks.due("the methods", seen.toString(), want.toString());
    }
}
