import java.io.IOException;
import java.lang.reflect.Constructor;
import java.lang.reflect.Field;
import java.lang.reflect.Method;
import java.lang.reflect.Modifier;
import java.nio.file.Files;
import java.nio.file.Path;
import java.util.Arrays;
import java.util.Set;
import java.util.TreeSet;

/** The public face of the document, and those rules of LANGUAGE.md that can be seen from outside. */
public final class FaceTest {
    private static final String[] METHODS = {
        "int feed(int, int, int, int, int)", "boolean end(int)", "int fault()", "int rule()", "int told(int, int)",
        "int range(int, int, int, int, int)", "int mark(int, int, int)", "int chart(int, int, int, int, int, int)",
        "boolean reading(int, int)", "int read(int, int)", "int lead(int, int)", "int span(int, boolean)",
        "int page(int, int, int)", "int sharpest(int, int, int)", "int list(int)", "int clear()",
        "int finest(int, int, int)", "boolean paper(int, int, int, int)", "int swelled(int, int, boolean)", "int go(int)",
        "int move(int, int, int, int)", "int report(int, int)", "int due(int, int, int)", "int habit(int)",
        "int suspects(int, int, int)", "int count(int)"};
    private static final String[] RULED_OUT = {"throw", "try", "catch", "finally", "synchronized", "assert", "->", "::",
        "HashMap", "Object", "System.out", "hashCode", "toString", "package", "NaN", "double", "float"};
    private static final Checks checks = new Checks();

    public static void main(String[] args) throws IOException {
        face();
        names();
        classesInside();
        source(args.length > 0 ? args[0] : ".");
        checks.close();
    }

    private static String told(Method m) {
        StringBuilder b = new StringBuilder(m.getReturnType() + " " + m.getName() + "(");
        for (Class<?> type : m.getParameterTypes()) {
            b.append(b.charAt(b.length() - 1) == '(' ? "" : ", ").append(type);
        }
        return b.append(")").toString();
    }

    private static void face() {
        Class<?> c = ThreadCharts.class;
        checks.due("public and final", Modifier.isPublic(c.getModifiers()) && Modifier.isFinal(c.getModifiers()), true);
        checks.due("one constructor", c.getDeclaredConstructors().length, 1);
        for (Constructor<?> k : c.getDeclaredConstructors()) {
            checks.due("public, without arguments", Modifier.isPublic(k.getModifiers()) && k.getParameterCount() == 0, true);
        }
        Set<String> open = new TreeSet<>();
        for (Method m : c.getDeclaredMethods()) {
            if (!Modifier.isPrivate(m.getModifiers())) {
                checks.due(told(m) + " is public and no static one", m.getModifiers(), Modifier.PUBLIC);
                open.add(told(m));
            }
        }
        checks.due("methods " + open, open.equals(new TreeSet<>(Arrays.asList(METHODS))), true);
        for (Field f : c.getDeclaredFields()) {
            boolean constant = f.getName().equals("NONE") || f.getName().equals("VOID");
            checks.due("field " + f.getName(), constant ? Modifier.isPublic(f.getModifiers()) : Modifier.isPrivate(f.getModifiers()), true);
        }
        checks.due("NONE", ThreadCharts.NONE, -1);
        checks.due("VOID", ThreadCharts.VOID, -2147483648L);
    }

    private static void names() {
        Set<String> open = new TreeSet<>();
        for (Method m : ThreadCharts.class.getDeclaredMethods()) {
            if (Modifier.isPublic(m.getModifiers())) {
                open.add(m.getName());
            }
        }
        noneOf(open, ThreadCharts.class);
        for (Class<?> inside : ThreadCharts.class.getDeclaredClasses()) {
            noneOf(open, inside);
        }
    }

    private static void noneOf(Set<String> open, Class<?> c) {
        for (Method m : c.getDeclaredMethods()) {
            if (Modifier.isPrivate(m.getModifiers())) {
                checks.due(c.getSimpleName() + "." + m.getName() + " bears a public name", open.contains(m.getName()), false);
            }
            checks.due(m.getName() + " has at most seven parameters", m.getParameterCount() <= 7, true);
        }
    }

    private static void classesInside() {
        Class<?>[] inside = ThreadCharts.class.getDeclaredClasses();
        checks.due("at most twelve classes", inside.length < 12, true);
        for (Class<?> c : inside) {
            checks.due(c.getSimpleName() + " is static", Modifier.isStatic(c.getModifiers()), true);
            checks.due(c.getSimpleName() + " is not public", Modifier.isPublic(c.getModifiers()), false);
            fewFields(c);
        }
        fewFields(ThreadCharts.class);
    }

    private static void fewFields(Class<?> c) {
        int fields = 0;
        for (Field f : c.getDeclaredFields()) {
            if (Modifier.isStatic(f.getModifiers())) {
                checks.due(c.getSimpleName() + "." + f.getName() + " is final", Modifier.isFinal(f.getModifiers()), true);
            } else {
                fields++;
            }
        }
        checks.due(c.getSimpleName() + " has at most twenty fields", fields <= 20, true);
    }

    private static void source(String root) throws IOException {
        String text = Files.readString(Path.of(root, "src", "main", "java", "ThreadCharts.java"));
        String code = text.replaceAll("(?s)/\\*.*?\\*/", " ").replaceAll("//[^\n]*", " ");
        for (String word : RULED_OUT) {
            String sought = Character.isLetter(word.charAt(0)) ? "\\b" + word.replace(".", "\\.") + "\\b" : word;
            checks.due("'" + word + "' in the code", code.split(sought, -1).length - 1, 0);
        }
        for (String line : code.split("\n")) {
            if (line.startsWith("import")) {
                checks.due(line, line.matches("import java\\.util\\.(Arrays|ArrayList|List);\\s*"), true);
            }
        }
    }
}
