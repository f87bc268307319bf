import java.io.IOException;
import java.lang.reflect.InvocationTargetException;
import java.lang.reflect.Method;
import java.lang.reflect.Modifier;
import java.nio.file.Files;
import java.nio.file.Path;
import java.util.List;
import java.util.TreeSet;
import java.util.regex.Matcher;
import java.util.regex.Pattern;
import java.util.stream.Stream;

/** What README.md tells of the class is so: the answers in its example, and the calls in its table. */
public final class ReteEngineReadme {
    private static final String MADE = "ReteEngine engine = new ReteEngine();";
    private static final Pattern CALL = Pattern.compile("engine\\.(\\w+)\\((.*)\\); +// (-?\\w+)(:.*)?");
    private static final Pattern TABLE_ROW = Pattern.compile("\\| `(\\w+)\\((.*?)\\)` \\|.*");

    private static int wrong = 0;

    public static void main(String[] args) throws IOException, ReflectiveOperationException {
        List<String> lines = Files.readAllLines(Path.of("README.md"));
        example(lines);
        table(lines);
        System.out.println(wrong == 0 ? "README.md tells what is so" : wrong + " things in README.md are not so");
        if (wrong != 0) {
            System.exit(1);
        }
    }

    private static void check(String what, boolean holds) {
        if (!holds) {
            wrong++;
            System.out.println("does not hold: " + what);
        }
    }

    private static void example(List<String> lines) throws ReflectiveOperationException {
        int begin = lines.indexOf("```java") + 1;
        int end = lines.indexOf("```");
        check("README.md has an example", 0 < begin && begin < end);
        TreeSet<String> shown = new TreeSet<>();
        ReteEngine engine = new ReteEngine();
        for (String line : lines.subList(begin, Math.max(begin, end))) {
            Matcher call = CALL.matcher(line);
            if (call.matches()) {
                shown.add(call.group(1));
                String answer = String.valueOf(answerOf(engine, call.group(1), call.group(2)));
                check(line + " (answered " + answer + ")", answer.equals(call.group(3)));
            } else {
                check("a line of the example can be read: " + line, line.equals(MADE) || line.startsWith("//"));
            }
        }
        check("the example shows every method, not only " + shown, shown.equals(publicMethods(false)));
    }

    private static Object answerOf(ReteEngine engine, String name, String arguments)
            throws ReflectiveOperationException {
        Integer[] values = arguments.isEmpty()
            ? new Integer[0]
            : Stream.of(arguments.split(",")).map(ReteEngineReadme::sum).toArray(Integer[]::new);
        Class<?>[] types = Stream.of(values).map(value -> int.class).toArray(Class<?>[]::new);
        try {
            return ReteEngine.class.getMethod(name, types).invoke(engine, (Object[]) values);
        } catch (InvocationTargetException e) {
            return e.getCause();
        }
    }

    private static int sum(String text) {
        int sum = 0;
        for (String product : text.split("\\+")) {
            int value = 1;
            for (String factor : product.split("\\*")) {
                value *= Integer.parseInt(factor.trim());
            }
            sum += value;
        }
        return sum;
    }

    private static void table(List<String> lines) {
        TreeSet<String> rows = new TreeSet<>();
        for (String line : lines) {
            Matcher row = TABLE_ROW.matcher(line);
            if (row.matches()) {
                int parameters = row.group(2).isEmpty() ? 0 : row.group(2).split(",").length;
                rows.add(row.group(1) + "/" + parameters);
            }
        }
        check("the table has every method, and no other: " + rows, rows.equals(publicMethods(true)));
    }

    private static TreeSet<String> publicMethods(boolean withParameters) {
        TreeSet<String> names = new TreeSet<>();
        for (Method method : ReteEngine.class.getDeclaredMethods()) {
            if (Modifier.isPublic(method.getModifiers())) {
                names.add(method.getName() + (withParameters ? "/" + method.getParameterCount() : ""));
            }
        }
        return names;
    }
}
