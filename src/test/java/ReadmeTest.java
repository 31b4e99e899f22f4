import java.io.IOException;
import java.lang.reflect.InvocationTargetException;
import java.lang.reflect.Method;
import java.lang.reflect.Modifier;
import java.nio.file.Files;
import java.nio.file.Path;
import java.util.ArrayList;
import java.util.Arrays;
import java.util.HashMap;
import java.util.List;
import java.util.Map;
import java.util.TreeSet;
import java.util.regex.Matcher;
import java.util.regex.Pattern;

/** The calls that README.md shows as an example, made as they stand there, with the answers told. */
public final class ReadmeTest {
    private static final Pattern CALL =
        Pattern.compile("(?:int (\\w+) = )?x\\.(\\w+)\\(([^()]*)\\); +// (throws \\w+|\\w+|-\\d+)(?:: .+)?");

    private final Map<String, Integer> values = new HashMap<>();
    private final TreeSet<String> shown = new TreeSet<>();
    private StructureMap x = null;
    private int calls = 0;

    public static void main(String[] args) throws IOException {
        Path readme = Path.of("README.md");
        if (!Files.isRegularFile(readme)) {
            System.out.println("README.md is not in the folder where the tests run");
            System.exit(1);
        }
        List<String> lines = Files.readAllLines(readme);
        ReadmeTest test = new ReadmeTest();
        test.constants();
        test.example(block(lines, "```java"));
        test.printed(block(lines, "```text"));
        test.showsEverything();
        tableOfCalls(lines);
        Due.end();
    }

    /** The lines of the one block that begins so. */
    private static List<String> block(List<String> lines, String fence) {
        List<String> found = new ArrayList<>();
        int blocks = 0;
        boolean inside = false;
        for (String line : lines) {
            if (line.equals(fence)) {
                blocks++;
                inside = true;
            } else if (line.equals("```")) {
                inside = false;
            } else if (inside && !line.isEmpty()) {
                found.add(line);
            }
        }
        Due.same("blocks of README.md that begin with " + fence, blocks, 1);
        return found;
    }

    private void constants() {
        values.put("NONE", -1);
        values.put("RANGE", -2);
        values.put("STATE", -3);
        values.put("FULL", -4);
    }

    private void example(List<String> lines) {
        for (String line : lines) {
            if (line.equals("StructureMap x = new StructureMap();")) {
                x = new StructureMap();
            } else {
                call(line);
            }
        }
        Due.same("calls of the example, all within the 512: " + calls, calls > 0 && calls <= 512 ? 1 : 0, 1);
    }

    private void call(String line) {
        Matcher parts = CALL.matcher(line);
        if (!parts.matches() || x == null) {
            Due.same("README.md, a line that is no call with its answer: " + line, 0, 1);
            return;
        }
        calls++;
        String due = parts.group(4);
        shown.add(parts.group(2));
        shown.add(due.startsWith("throws ") || due.matches("[A-Z]+") ? due : "a number");
        String got = answer(parts.group(2), arguments(parts.group(3)));
        Due.same("README.md, " + line + " - but it answers " + got, got.equals(plain(due)) ? 1 : 0, 1);
        if (parts.group(1) != null && got.matches("-?\\d+")) {
            Integer before = values.put(parts.group(1), Integer.valueOf(got));
            Due.same("README.md, a second " + parts.group(1), before == null ? 1 : 0, 1);
        }
    }

    private String plain(String due) {
        Integer named = values.get(due);
        return named == null ? due : named.toString();
    }

    private Object[] arguments(String written) {
        String[] all = written.split(", ");
        Object[] numbers = new Object[all.length];
        for (int n = 0; n < all.length; n++) {
            Integer named = values.get(all[n]);
            numbers[n] = named == null ? Integer.valueOf(all[n]) : named;
        }
        return numbers;
    }

    private String answer(String name, Object[] numbers) {
        Class<?>[] types = new Class<?>[numbers.length];
        Arrays.fill(types, int.class);
        try {
            Method method = StructureMap.class.getMethod(name, types);
            return method.invoke(x, numbers).toString();
        } catch (InvocationTargetException e) {
            return "throws " + e.getCause().getClass().getSimpleName();
        } catch (NoSuchMethodException | IllegalAccessException e) {
            return "no such call";
        }
    }

    /** What is printed latest in the example is the text that stands behind it. */
    private void printed(List<String> lines) {
        Due.stillPrinted("README.md, the text", x, String.join("\n", lines) + "\n");
    }

    private void showsEverything() {
        TreeSet<String> want = methods();
        want.addAll(List.of("NONE", "RANGE", "STATE", "FULL", "throws IndexOutOfBoundsException", "a number"));
        Due.same("the example shows " + shown + ", due is " + want, shown.equals(want) ? 1 : 0, 1);
    }

    private static TreeSet<String> methods() {
        TreeSet<String> names = new TreeSet<>();
        for (Method method : StructureMap.class.getDeclaredMethods()) {
            if (Modifier.isPublic(method.getModifiers())) {
                names.add(method.getName());
            }
        }
        return names;
    }

    /** A row for each call, with as many numbers as it takes. */
    private static void tableOfCalls(List<String> lines) {
        for (Method method : StructureMap.class.getDeclaredMethods()) {
            if (Modifier.isPublic(method.getModifiers())) {
                String more = "(, \\w+){" + (method.getParameterCount() - 1) + "}";
                Pattern row = Pattern.compile("\\| `" + method.getName() + "\\(\\w+" + more + "\\)` \\|.*\\|.*\\|");
                long rows = lines.stream().filter(line -> row.matcher(line).matches()).count();
                Due.same("README.md, rows of " + method.getName(), rows, 1);
            }
        }
    }
}
