import java.lang.reflect.Constructor;
import java.lang.reflect.Field;
import java.lang.reflect.Method;
import java.lang.reflect.Modifier;
import java.util.Arrays;
import java.util.HashSet;
import java.util.Set;
import java.util.TreeSet;

/**
 * The public face: the document's members with their types and values, and no other visible member. Beside
 * them the rules of LANGUAGE.md that can be seen on the members.
 */
public final class FaceTest {
    private static final Checks checks = new Checks();
    private static final Set<Class<?>> NUMBERS =
        Set.of(int.class, long.class, short.class, byte.class, char.class, boolean.class);

    public static void main(String[] args) throws ReflectiveOperationException {
        checks.due("the class's modifiers", Modifier.toString(RepairRange.class.getModifiers()), "public final");
        checks.due("the number of nested classes", RepairRange.class.getDeclaredClasses().length, 0);
        constants();
        constructors();
        methods();
        fieldsKeepToTheLanguage();
        methodsKeepToTheLanguage();
        checks.end();
    }

    private static void constants() throws IllegalAccessException {
        TreeSet<String> seen = new TreeSet<>();
        for (Field field : RepairRange.class.getDeclaredFields()) {
            if (!Modifier.isPrivate(field.getModifiers())) {
                String modifiers = Modifier.toString(field.getModifiers());
                seen.add(modifiers + " " + field.getType() + " " + field.getName() + " = " + field.get(null));
            }
        }
        TreeSet<String> want = new TreeSet<>(Arrays.asList(
            "public static final int BAD_KEY = -1",
            "public static final int BAD_GROUP = -2",
            "public static final int BAD_VALUE = -3",
            "public static final int FULL = -4",
            "public static final int NO_ROW = -5",
            "public static final int NONE = 1000000"));
        checks.due("the constants", seen.toString(), want.toString());
    }

    private static void constructors() {
        Constructor<?>[] all = RepairRange.class.getDeclaredConstructors();
        checks.due("the constructors", Arrays.toString(all), "[public RepairRange()]");
    }

    private static void methods() {
        TreeSet<String> seen = new TreeSet<>();
        for (Method method : RepairRange.class.getDeclaredMethods()) {
            if (!Modifier.isPrivate(method.getModifiers())) {
                seen.add(method.toString().replace("RepairRange.", ""));
            }
        }
        TreeSet<String> want = new TreeSet<>(Arrays.asList(
            "public int add(int,int,int)",
            "public int remove(int)",
            "public int repairs()",
            "public int countLeast(int)",
            "public int countMost(int)",
            "public int sumLeast(int)",
            "public int sumMost(int)",
            "public int groupsLeast()",
            "public int groupsMost()",
            "public int spreadLeast()",
            "public int middleMost()",
            "public int mixedMost()",
            "public boolean exactly(int)"));
        checks.due("the methods", seen.toString(), want.toString());
    }

    private static void fieldsKeepToTheLanguage() {
        int held = 0;
        for (Field field : RepairRange.class.getDeclaredFields()) {
            Class<?> type = field.getType();
            if (Modifier.isStatic(field.getModifiers())) {
                boolean number = type == int.class || type == long.class;
                boolean constant = Modifier.isFinal(field.getModifiers());
                checks.due(field + ", an int or long constant (rule 5)", number && constant, true);
            } else {
                held++;
                Class<?> item = type.isArray() ? type.getComponentType() : type;
                checks.due(field + ", a number or an array of them (rule 2)", NUMBERS.contains(item), true);
            }
        }
        checks.due("at most forty fields (rule 10)", held <= 40, true);
    }

    private static void methodsKeepToTheLanguage() {
        Set<String> open = new HashSet<>();
        Set<String> hidden = new HashSet<>();
        for (Method method : RepairRange.class.getDeclaredMethods()) {
            boolean isPrivate = Modifier.isPrivate(method.getModifiers());
            (isPrivate ? hidden : open).add(method.getName());
            boolean array = method.getReturnType().isArray();
            checks.due(method + ", an array (rule 4)", array, false);
            boolean many = method.getParameterCount() > 7;
            checks.due(method + ", over seven parameters (rule 10)", many, false);
        }
        hidden.retainAll(open);
        checks.due("private methods with a public one's name (rule 1)", hidden.toString(), "[]");
    }
}
