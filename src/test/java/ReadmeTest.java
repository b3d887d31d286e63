import java.io.IOException;
import java.lang.reflect.Field;
import java.lang.reflect.Method;
import java.lang.reflect.Modifier;
import java.net.URL;
import java.net.URLClassLoader;
import java.nio.file.Files;
import java.nio.file.Path;
import java.util.ArrayList;
import java.util.List;
import java.util.Map;
import java.util.Set;
import java.util.TreeMap;
import java.util.TreeSet;
import java.util.regex.Matcher;
import java.util.regex.Pattern;
import javax.tools.ToolProvider;

/**
 * What README.md shows of the use of the class. Its java blocks, one behind the other, are compiled and run as one
 * program: a call's answer must be the one behind "// answers". Its tables must tell every constant and every call.
 */
public final class ReadmeTest {
    private static final Pattern ANSWERED =
        Pattern.compile("\\s*(search\\.(\\w+)\\((?:'.'|[^'()])*\\));\\s*// answers ([^:]+)(:.*)?");
    private static final Pattern NOTHING_ANSWERED = Pattern.compile("\\s*search\\.(\\w+)\\(\\);");
    private static final Pattern CONSTANT_ROW = Pattern.compile("\\| `([A-Z_]+)` \\| (-?\\d+) \\|.*");
    private static final Pattern CALL_ROW = Pattern.compile("\\| `(\\w+)\\((.*)\\)` \\|(.*)\\|(.*)\\|");
    private static final Pattern RANGE = Pattern.compile("(\\d+)\\.\\.(\\d+|k\\+1)");
    private static final Pattern REFUSAL = Pattern.compile("ERR_\\w+");
    private static final Object[] CHARS = {'a', 'z', '.', '*', ')', 'A', '{'};
    private static final Object[] INTS = {Integer.MIN_VALUE, -1, 0, 1, 8, 256, 257, Integer.MAX_VALUE};

    private static List<String> lines = List.of();
    private static final Map<Integer, Integer> timesCalled = new TreeMap<>();
    private static final Map<Integer, Integer> timesDue = new TreeMap<>();
    private static final Set<String> shown = new TreeSet<>();

    public static void main(String[] args) throws IOException, ReflectiveOperationException {
        lines = Files.readAllLines(Path.of("README.md"));
        runProgram(program());
        everyAnswerWasAsked();
        everyCallIsShown();
        everyConstantIsTold();
        everyCallIsTold();
        Check.end();
    }

    private static String program() {
        StringBuilder source = new StringBuilder("public final class ReadmeProgram {\n");
        source.append("public static void main(String[] args) {\n");
        boolean inBlock = false;
        for (int i = 0; i < lines.size(); i++) {
            if (lines.get(i).startsWith("```")) {
                inBlock = lines.get(i).equals("```java");
            } else if (inBlock) {
                source.append(statement(i + 1, lines.get(i))).append('\n');
            }
        }
        return source.append("}\n}\n").toString();
    }

    private static String statement(int line, String text) {
        Matcher answered = ANSWERED.matcher(text);
        if (answered.matches()) {
            String wanted = answered.group(3).replaceAll("\\bERR_", "ApproxRegexSearch.ERR_");
            shown.add(answered.group(2));
            timesDue.put(line, wanted.split(",").length);
            return "ReadmeTest.due(" + line + ", " + answered.group(1) + ", " + wanted + ");";
        }
        Matcher nothing = NOTHING_ANSWERED.matcher(text);
        if (nothing.matches() && returnsNothing(nothing.group(1))) {
            shown.add(nothing.group(1));
        } else {
            Check.due(place(line) + " has a call without its answer", text.contains("search."), false);
        }
        return text;
    }

    private static boolean returnsNothing(String name) {
        for (Method m : publicMethods()) {
            if (m.getName().equals(name)) {
                return m.getReturnType() == void.class;
            }
        }
        return false;
    }

    private static String place(int line) {
        return "README.md line " + line + ", " + lines.get(line - 1).strip() + ",";
    }

    private static void runProgram(String source) throws IOException, ReflectiveOperationException {
        Path dir = Files.createTempDirectory("readme");
        Path file = dir.resolve("ReadmeProgram.java");
        Path compiled = dir.resolve("ReadmeProgram.class");
        Files.writeString(file, source);
        int failed = ToolProvider.getSystemJavaCompiler().run(null, null, null, "--release", "17", "-cp",
            System.getProperty("java.class.path"), "-d", dir.toString(), file.toString());
        Check.due("javac for the program of README.md", failed, 0);
        if (failed == 0) {
            try (URLClassLoader loader = new URLClassLoader(new URL[] {dir.toUri().toURL()})) {
                Method main = loader.loadClass("ReadmeProgram").getMethod("main", String[].class);
                main.invoke(null, (Object) new String[0]);
            }
        }
        Files.deleteIfExists(compiled);
        Files.delete(file);
        Files.delete(dir);
    }

    /** Called by the program of README.md: several answers are due one after the other, a single one each time. */
    public static void due(int line, int got, int... wanted) {
        int times = timesCalled.merge(line, 1, Integer::sum);
        if (wanted.length == 1) {
            Check.due(place(line), got, wanted[0]);
        } else if (times <= wanted.length) {
            Check.due(place(line) + " call " + times, got, wanted[times - 1]);
        }
    }

    /** Called by the program of README.md. */
    public static void due(int line, boolean got, boolean wanted) {
        timesCalled.merge(line, 1, Integer::sum);
        Check.due(place(line), got, wanted);
    }

    private static void everyAnswerWasAsked() {
        for (Map.Entry<Integer, Integer> e : timesDue.entrySet()) {
            int called = timesCalled.getOrDefault(e.getKey(), 0);
            if (e.getValue() > 1 || called == 0) {
                Check.due(place(e.getKey()) + " number of calls", called, e.getValue());
            }
        }
    }

    private static List<Method> publicMethods() {
        List<Method> found = new ArrayList<>();
        for (Method m : ApproxRegexSearch.class.getDeclaredMethods()) {
            if (Modifier.isPublic(m.getModifiers())) {
                found.add(m);
            }
        }
        return found;
    }

    private static void everyCallIsShown() {
        for (Method m : publicMethods()) {
            Check.due(m.getName() + " is in a java block of README.md", shown.contains(m.getName()), true);
        }
    }

    private static Map<String, Integer> constants() throws IllegalAccessException {
        Map<String, Integer> found = new TreeMap<>();
        for (Field f : ApproxRegexSearch.class.getFields()) {
            found.put(f.getName(), f.getInt(null));
        }
        return found;
    }

    private static void everyConstantIsTold() throws IllegalAccessException {
        Map<String, Integer> told = new TreeMap<>();
        for (String line : lines) {
            Matcher row = CONSTANT_ROW.matcher(line);
            if (row.matches()) {
                told.put(row.group(1), Integer.valueOf(row.group(2)));
            }
        }
        Check.same("constants of README.md", told.toString(), constants().toString());
    }

    private static void everyCallIsTold() throws ReflectiveOperationException {
        for (Method m : publicMethods()) {
            int rows = 0;
            for (String line : lines) {
                Matcher row = CALL_ROW.matcher(line);
                if (row.matches() && row.group(1).equals(m.getName())) {
                    rows++;
                    rowHolds(m, row);
                }
            }
            Check.due("rows of README.md for " + m.getName(), rows, 1);
        }
    }

    private static void rowHolds(Method m, Matcher row) throws ReflectiveOperationException {
        String parameter = m.getParameterCount() == 0 ? "" : m.getParameterTypes()[0].getName();
        Check.same("parameter of " + m.getName(), row.group(2).split(" ")[0], parameter);
        Set<String> refusals = new TreeSet<>();
        for (State state : State.all()) {
            for (Object argument : parameter.equals("char") ? CHARS : INTS) {
                ApproxRegexSearch x = state.make();
                Object got = parameter.isEmpty() ? m.invoke(x) : m.invoke(x, argument);
                if (got instanceof Integer && (Integer) got < 0) {
                    refusals.add(nameOf((Integer) got));
                } else if (got instanceof Integer) {
                    String what = m.getName() + " of " + argument + " in state " + state.name;
                    answerIsInRange(what, (Integer) got, row.group(3), state.k);
                }
            }
        }
        Set<String> told = new TreeSet<>();
        REFUSAL.matcher(row.group(4)).results().forEach(found -> told.add(found.group()));
        Check.same("refusals of " + m.getName() + " in README.md", told.toString(), refusals.toString());
    }

    private static String nameOf(int refusal) throws IllegalAccessException {
        for (Map.Entry<String, Integer> e : constants().entrySet()) {
            if (e.getValue() == refusal) {
                return e.getKey();
            }
        }
        return String.valueOf(refusal);
    }

    private static void answerIsInRange(String what, int got, String cell, int k) {
        Matcher range = RANGE.matcher(cell);
        boolean told = range.find();
        Check.due(what + " has a range in README.md", told, true);
        if (told) {
            int greatest = range.group(2).equals("k+1") ? k + 1 : Integer.parseInt(range.group(2));
            Check.due(what + " is " + got + ", in its range of README.md",
                got >= Integer.parseInt(range.group(1)) && got <= greatest, true);
        }
    }
}
