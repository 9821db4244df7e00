import java.io.IOException;
import java.lang.reflect.Field;
import java.lang.reflect.Method;
import java.lang.reflect.Modifier;
import java.nio.file.Files;
import java.nio.file.Path;
import java.util.Arrays;
import java.util.List;
import java.util.TreeSet;
import java.util.regex.Matcher;
import java.util.regex.Pattern;

/**
 * README.md, which lies in the directory from which the tests are run: makes the calls of its examples and compares
 * their answers, and looks for every method and constant of the class.
 */
public final class ReadmeTest {
    private static final String NEW_OBJECT = "RectangleTree tree = new RectangleTree();";
    private static final Pattern CALL = Pattern.compile("tree\\.(\\w+)\\((.*)\\); +// (-?[\\w.]+)(:.*)?");
    private static final Pattern METHOD = Pattern.compile("- `(int|float) (\\w+)\\(((?:int \\w+(?:, )?)*)\\)`: .*");
    private static final Pattern CONSTANT = Pattern.compile("- `(\\w+) = (-?\\d+)`: .*");
    private static final Check CHECK = new Check();

    private ReadmeTest() {
    }

    public static void main(String[] args) throws IOException, ReflectiveOperationException {
        List<String> lines = Files.readAllLines(Path.of("README.md"));
        examples(lines);
        methods(lines);
        constants(lines);
        CHECK.end("ReadmeTest");
    }

    private static void isTrue(String what, boolean holds) {
        CHECK.due(what, holds ? 1 : 0, 1);
    }

    private static void examples(List<String> lines) throws ReflectiveOperationException {
        TreeSet<String> unused = new TreeSet<>();
        for (Method method : RectangleTree.class.getMethods()) {
            if (method.getDeclaringClass() == RectangleTree.class) {
                unused.add(method.getName());
            }
        }
        RectangleTree tree = null;
        boolean inExample = false;
        for (String line : lines) {
            if (line.startsWith("```")) {
                inExample = line.equals("```java");
            } else if (inExample && line.equals(NEW_OBJECT)) {
                tree = new RectangleTree();
            } else if (inExample) {
                Matcher call = CALL.matcher(line);
                isTrue("an example is a call with its answer: " + line, call.matches());
                if (call.matches()) {
                    CHECK.due(line, ask(tree, call.group(1), call.group(2)), value(call.group(3)));
                    unused.remove(call.group(1));
                }
            }
        }
        for (String name : unused) {
            isTrue("an example calls " + name, false);
        }
    }

    private static double ask(RectangleTree tree, String name, String list) throws ReflectiveOperationException {
        String[] texts = list.isEmpty() ? new String[0] : list.split(", ");
        Object[] values = new Object[texts.length];
        Class<?>[] types = new Class<?>[texts.length];
        for (int i = 0; i < texts.length; i++) {
            values[i] = (int) value(texts[i]);
            types[i] = int.class;
        }
        return ((Number) RectangleTree.class.getMethod(name, types).invoke(tree, values)).doubleValue();
    }

    /** A number, a character in its marks, or a constant with or without the name of the class. */
    private static double value(String text) throws ReflectiveOperationException {
        if (text.startsWith("'")) {
            return text.charAt(1);
        }
        char first = text.charAt(0);
        if (first >= 'A' && first <= 'Z') {
            return RectangleTree.class.getField(text.replace("RectangleTree.", "")).getInt(null);
        }
        return Double.parseDouble(text);
    }

    private static void methods(List<String> lines) throws ReflectiveOperationException {
        TreeSet<String> told = new TreeSet<>();
        for (String line : lines) {
            Matcher method = METHOD.matcher(line);
            if (method.matches()) {
                String list = method.group(3);
                Class<?>[] types = new Class<?>[list.isEmpty() ? 0 : list.split(", ").length];
                Arrays.fill(types, int.class);
                Method found = RectangleTree.class.getMethod(method.group(2), types);
                isTrue(line, found.getReturnType().getName().equals(method.group(1)));
                isTrue("told once: " + line, told.add(found.getName()));
            }
        }
        for (Method method : RectangleTree.class.getMethods()) {
            if (method.getDeclaringClass() == RectangleTree.class) {
                isTrue("README.md tells of " + method.getName(), told.contains(method.getName()));
            }
        }
    }

    private static void constants(List<String> lines) throws ReflectiveOperationException {
        TreeSet<String> told = new TreeSet<>();
        for (String line : lines) {
            Matcher constant = CONSTANT.matcher(line);
            if (constant.matches()) {
                CHECK.due(line, value(constant.group(1)), Integer.parseInt(constant.group(2)));
                told.add(constant.group(1));
            }
        }
        for (Field field : RectangleTree.class.getFields()) {
            if (Modifier.isStatic(field.getModifiers())) {
                isTrue("README.md tells of " + field.getName(), told.contains(field.getName()));
            }
        }
    }
}
