import java.io.IOException;
import java.lang.reflect.Method;
import java.lang.reflect.Modifier;
import java.nio.file.Files;
import java.nio.file.Path;
import java.util.Arrays;
import java.util.HashSet;
import java.util.List;
import java.util.Set;
import java.util.regex.Matcher;
import java.util.regex.Pattern;

/** What README.md tells a user is so: its example answers as it says, and it names every method. */
public final class ReadmeTest {
    private static final Pattern EXAMPLE = Pattern.compile("shapes\\.(\\w+)\\(([^)]*)\\);\\s*// (-?\\d+).*");
    private static final Pattern TABLE_ROW = Pattern.compile("\\| `(\\w+)\\(([^)]*)\\)` \\|.*");
    private static final Check CHECK = new Check();

    public static void main(String[] args) throws IOException, ReflectiveOperationException {
        List<String> lines = Files.readAllLines(Path.of("README.md"));
        example(lines);
        table(lines);
        CHECK.end("ReadmeTest");
    }

    private static void example(List<String> lines) throws ReflectiveOperationException {
        RskShapes shapes = new RskShapes();
        Set<String> shown = new HashSet<>();
        for (String line : lines) {
            if (!line.startsWith("shapes.")) {
                continue;
            }
            Matcher call = EXAMPLE.matcher(line);
            boolean readable = call.matches();
            CHECK.due("README: a call with its answer: " + line, readable ? 1 : 0, 1);
            if (readable) {
                shown.add(call.group(1));
                CHECK.due("README: " + line, answer(shapes, call), Integer.parseInt(call.group(3)));
            }
        }
        for (Method method : publicMethods()) {
            CHECK.due("README: example shows " + method.getName(), shown.contains(method.getName()) ? 1 : 0, 1);
        }
    }

    private static int answer(RskShapes shapes, Matcher call) throws ReflectiveOperationException {
        Object[] arguments = argumentsOf(call).stream().map(Integer::valueOf).toArray();
        Class<?>[] types = new Class<?>[arguments.length];
        Arrays.fill(types, int.class);
        return (int) RskShapes.class.getMethod(call.group(1), types).invoke(shapes, arguments);
    }

    private static void table(List<String> lines) {
        Set<String> told = new HashSet<>();
        for (String line : lines) {
            Matcher row = TABLE_ROW.matcher(line);
            if (row.matches()) {
                told.add(row.group(1) + argumentsOf(row).size());
            }
        }
        List<Method> methods = publicMethods();
        for (Method method : methods) {
            String name = method.getName() + method.getParameterCount();
            CHECK.due("README: table has " + method.getName(), told.contains(name) ? 1 : 0, 1);
        }
        CHECK.due("README: methods in the table", told.size(), methods.size());
    }

    private static List<String> argumentsOf(Matcher call) {
        return call.group(2).isEmpty() ? List.of() : List.of(call.group(2).split(", "));
    }

    private static List<Method> publicMethods() {
        return Arrays.stream(RskShapes.class.getDeclaredMethods())
            .filter(method -> Modifier.isPublic(method.getModifiers())).toList();
    }
}
