import java.io.IOException;
import java.lang.reflect.Method;
import java.lang.reflect.Modifier;
import java.nio.file.Files;
import java.nio.file.Path;
import java.util.ArrayList;
import java.util.Arrays;
import java.util.List;
import java.util.regex.Matcher;
import java.util.regex.Pattern;

/** A reader copies README.md: its example must answer as it says, its tables leave no name out. */
public final class ReadmeTest {
    private static final Pattern EXAMPLE =
            Pattern.compile("scene\\.(\\w+)\\((.*?)\\);\\s*// (-?\\w+).*");
    private static final Pattern CALL_ROW = Pattern.compile("\\| `(\\w+)\\((.*?)\\)` .*");
    private static final Pattern CONSTANT_ROW =
            Pattern.compile("\\| `([A-Z_]+)` *\\| *(-?\\d+) *\\|.*");

    public static void main(String[] args) throws IOException, ReflectiveOperationException {
        List<String> lines = Files.readAllLines(Path.of("README.md"));
        exampleAnswersAsItSays(lines);
        everyMethodIsInTheTable(lines);
        everyConstantIsInTheTable(lines);
        Due.end();
    }

    private static void exampleAnswersAsItSays(List<String> lines)
            throws ReflectiveOperationException {
        WallBsp scene = new WallBsp();
        List<String> called = new ArrayList<>();
        for (String line : lines) {
            Matcher m = EXAMPLE.matcher(line);
            if (m.matches()) {
                called.add(m.group(1));
                Due.is(line, call(scene, m.group(1), m.group(2)), number(m.group(3)));
            } else {
                Due.that("an example without an answer: " + line, !line.startsWith("scene."));
            }
        }
        for (Method method : WallBsp.class.getDeclaredMethods()) {
            if (Modifier.isPublic(method.getModifiers())) {
                Due.that("the example calls " + method.getName(),
                        called.contains(method.getName()));
            }
        }
    }

    private static void everyMethodIsInTheTable(List<String> lines) {
        List<String> rows = new ArrayList<>();
        for (String line : lines) {
            Matcher m = CALL_ROW.matcher(line);
            if (m.matches()) {
                rows.add(m.group(1) + "/" + words(m.group(2)).length);
            }
        }
        List<String> methods = new ArrayList<>();
        for (Method method : WallBsp.class.getDeclaredMethods()) {
            if (Modifier.isPublic(method.getModifiers())) {
                methods.add(method.getName() + "/" + method.getParameterCount());
            }
        }
        rows.sort(null);
        methods.sort(null);
        Due.that("the table's calls " + rows + " are the class's " + methods, rows.equals(methods));
    }

    private static void everyConstantIsInTheTable(List<String> lines)
            throws ReflectiveOperationException {
        int rows = 0;
        for (String line : lines) {
            Matcher m = CONSTANT_ROW.matcher(line);
            if (m.matches()) {
                rows++;
                Due.is("README's " + m.group(1), Integer.parseInt(m.group(2)), number(m.group(1)));
            }
        }
        Due.is("constants in README's table", rows, WallBsp.class.getFields().length);
    }

    private static int call(WallBsp scene, String name, String arguments)
            throws ReflectiveOperationException {
        Object[] values =
                Arrays.stream(words(arguments)).map(Integer::valueOf).toArray(Object[]::new);
        Class<?>[] types = new Class<?>[values.length];
        Arrays.fill(types, int.class);
        return (int) WallBsp.class.getMethod(name, types).invoke(scene, values);
    }

    private static String[] words(String list) {
        return list.isBlank() ? new String[0] : list.trim().split(" *, *");
    }

    // A constant's name or a number.
    private static int number(String word) throws ReflectiveOperationException {
        if (Character.isUpperCase(word.charAt(0))) {
            return WallBsp.class.getField(word).getInt(null);
        }
        return Integer.parseInt(word);
    }
}
