import java.io.IOException;
import java.lang.reflect.Method;
import java.nio.file.DirectoryStream;
import java.nio.file.Files;
import java.nio.file.Path;
import java.util.HashMap;
import java.util.Map;
import java.util.Set;
import java.util.TreeSet;
import java.util.regex.Matcher;
import java.util.regex.Pattern;

/** README.md: its calls, one behind the other on one object, answer as it says; its table has every test. */
public final class ReadmeTest {
    private static final Pattern BLOCK = Pattern.compile("(?s)```java\n(.*?)```");
    private static final Pattern CALL = Pattern.compile(
            "(?:int (\\w+) = )?x\\.(\\w+)\\((.*?)\\);\\s*// (-?\\d+|true|false|NONE|VOID)\\b.*");
    private static final Pattern ROW = Pattern.compile("(?m)^\\| (\\w+Test) \\|");
    private static final Checks checks = new Checks();

    private final ThreadCharts x = new ThreadCharts();
    private final Map<String, Long> values = new HashMap<>();
    private final Set<String> called = new TreeSet<>();

    public static void main(String[] args) throws IOException, ReflectiveOperationException {
        Path root = Path.of(args.length > 0 ? args[0] : ".");
        String readme = Files.readString(root.resolve("README.md"));
        new ReadmeTest().calls(readme);
        table(readme, root);
        checks.close();
    }

    private void calls(String readme) throws ReflectiveOperationException {
        Matcher block = BLOCK.matcher(readme);
        int made = 0;
        while (block.find()) {
            for (String line : block.group(1).split("\n")) {
                if (line.equals("ThreadCharts x = new ThreadCharts();")) {
                    made++;
                } else {
                    call(line);
                }
            }
        }
        checks.due("README makes an object once", made, 1);
        for (Method m : ThreadCharts.class.getMethods()) {
            if (m.getDeclaringClass() == ThreadCharts.class) {
                checks.due("README calls " + m.getName(), called.contains(m.getName()), true);
            }
        }
    }

    private void call(String line) throws ReflectiveOperationException {
        Matcher call = CALL.matcher(line);
        boolean understood = call.matches();
        checks.due("README's line is a call with its answer: " + line, understood, true);
        if (!understood) {
            return;
        }
        Method method = methodNamed(call.group(2));
        checks.due("README's call is of the face: " + line, method != null, true);
        if (method == null) {
            return;
        }
        long got = valueOf(method.invoke(x, arguments(method, call.group(3))));
        checks.due("README: " + line, got, valueOf(call.group(4)));
        called.add(call.group(2));
        if (call.group(1) != null) {
            values.put(call.group(1), got);
        }
    }

    private static Method methodNamed(String name) {
        for (Method m : ThreadCharts.class.getMethods()) {
            if (m.getDeclaringClass() == ThreadCharts.class && m.getName().equals(name)) {
                return m;
            }
        }
        return null;
    }

    private Object[] arguments(Method method, String list) {
        String[] told = list.isEmpty() ? new String[0] : list.split(",\\s*");
        Class<?>[] types = method.getParameterTypes();
        Object[] arguments = new Object[told.length];
        for (int i = 0; i < told.length; i++) {
            long value = sumOf(told[i]);
            boolean isFlag = i < types.length && types[i] == boolean.class;
            arguments[i] = isFlag ? (Object) (value == 1) : (Object) (int) value;
        }
        return arguments;
    }

    private long sumOf(String told) {
        long sum = 0;
        for (String part : told.split(" \\+ ")) {
            sum += values.containsKey(part) ? values.get(part) : valueOf(part);
        }
        return sum;
    }

    private static long valueOf(Object answer) {
        String told = String.valueOf(answer);
        switch (told) {
            case "true":
                return 1;
            case "false":
                return 0;
            case "NONE":
                return Checks.NONE;
            case "VOID":
                return Checks.VOID;
            default:
                return Long.decode(told);
        }
    }

    private static void table(String readme, Path root) throws IOException {
        Set<String> inTable = new TreeSet<>();
        Matcher row = ROW.matcher(readme);
        while (row.find()) {
            inTable.add(row.group(1));
        }
        Set<String> there = new TreeSet<>();
        try (DirectoryStream<Path> files = Files.newDirectoryStream(root.resolve("src/test/java"), "*Test.java")) {
            for (Path file : files) {
                there.add(file.getFileName().toString().replace(".java", ""));
            }
        }
        checks.due("README's table " + inTable + " has the tests " + there, inTable.equals(there), true);
    }
}
