import java.lang.reflect.Constructor;
import java.lang.reflect.Field;
import java.lang.reflect.Method;
import java.lang.reflect.Modifier;
import java.util.Arrays;
import java.util.Set;
import java.util.TreeSet;

/** The public face and its constants, and the rules of LANGUAGE.md that can be seen from the class. */
public final class FaceTest {
    public static void main(String[] args) throws Exception {
        constants();
        methods();
        constructors();
        fields();
        Check.due("the class is public and final", ApproxRegexSearch.class.getModifiers(),
            Modifier.PUBLIC | Modifier.FINAL);
        Check.due("nested classes", ApproxRegexSearch.class.getDeclaredClasses().length, 0);
        Check.end();
    }

    private static void constants() throws Exception {
        String[] names = {"MAX_K", "PATTERN_CAPACITY", "TEXT_CAPACITY", "MAX_POSITIONS", "ERR_BAD_CHAR", "ERR_FULL",
            "ERR_NOT_COMPILED", "ERR_SYNTAX", "ERR_TOO_MANY", "ERR_EMPTY", "ERR_RANGE"};
        int[] values = {7, 64, 256, 63, -1, -2, -3, -4, -5, -6, -7};
        for (int i = 0; i < names.length; i++) {
            Field f = ApproxRegexSearch.class.getField(names[i]);
            Check.due(names[i], f.getInt(null), values[i]);
            Check.due(names[i] + " is an int", f.getType() == int.class, true);
            Check.due(names[i] + " is constant", f.getModifiers(),
                Modifier.PUBLIC | Modifier.STATIC | Modifier.FINAL);
        }
        int open = 0;
        for (Field f : ApproxRegexSearch.class.getDeclaredFields()) {
            open += Modifier.isPrivate(f.getModifiers()) ? 0 : 1;
        }
        Check.due("fields that are not private", open, names.length);
    }

    private static void methods() {
        Set<String> want = new TreeSet<>(Arrays.asList("int patternChar[char]", "void clearPattern[]",
            "int compile[]", "int feed[char]", "void resetText[]", "int getK[]", "int patternLength[]",
            "boolean isCompiled[]", "int positions[]", "boolean nullable[]", "int minLength[]",
            "int textLength[]", "int errorsAt[int]", "int wholeDistance[]", "int countWithin[int]",
            "int firstWithin[int]"));
        Set<String> open = new TreeSet<>();
        Set<String> openNames = new TreeSet<>();
        for (Method m : ApproxRegexSearch.class.getDeclaredMethods()) {
            if (!Modifier.isPrivate(m.getModifiers())) {
                open.add(m.getReturnType() + " " + m.getName() + Arrays.toString(m.getParameterTypes()));
                openNames.add(m.getName());
                Check.due(m.getName() + " is public and no more", m.getModifiers(), Modifier.PUBLIC);
            }
        }
        Check.same("methods that are not private", open.toString(), want.toString());
        for (Method m : ApproxRegexSearch.class.getDeclaredMethods()) {
            Check.due(m.getName() + " has at most seven parameters", m.getParameterCount() <= 7, true);
            if (Modifier.isPrivate(m.getModifiers())) {
                Check.due(m.getName() + " bears a public name", openNames.contains(m.getName()), false);
            }
        }
    }

    private static void constructors() {
        Constructor<?>[] all = ApproxRegexSearch.class.getDeclaredConstructors();
        Check.due("constructors", all.length, 1);
        Check.same("its parameters", Arrays.toString(all[0].getParameterTypes()), "[int]");
        Check.due("it is public", all[0].getModifiers(), Modifier.PUBLIC);
    }

    private static void fields() {
        Set<String> types = Set.of("int", "long", "short", "byte", "char", "boolean");
        int count = 0;
        for (Field f : ApproxRegexSearch.class.getDeclaredFields()) {
            Class<?> type = f.getType();
            if (Modifier.isStatic(f.getModifiers())) {
                boolean constant = Modifier.isFinal(f.getModifiers()) && (type == int.class || type == long.class);
                Check.due(f.getName() + " is a constant of int or long", constant, true);
            } else {
                String plain = type.isArray() ? type.getComponentType().getName() : type.getName();
                Check.due(f.getName() + " is of an allowed type", types.contains(plain), true);
                count++;
            }
        }
        Check.due("at most forty fields", count <= 40, true);
    }
}
