import java.io.IOException;
import java.lang.reflect.Method;
import java.lang.reflect.Modifier;
import java.nio.file.Files;
import java.nio.file.Path;
import java.util.Arrays;
import java.util.List;
import java.util.regex.Matcher;
import java.util.regex.Pattern;
import java.util.stream.Collectors;

/**
 * README.md, read from where .ci/run stands: its calls answer what is told
 * behind them, and its tables have each method of the face, once.
 */
public final class ReadmeTest {
    private static final Check check = new Check();
    private static final String ANSWER = " *// (-?[0-9]+)(?::.*)?";
    private static final Pattern CALL = Pattern.compile("x\\.([a-zA-Z]+)\\(([-0-9, ]*)\\);" + ANSWER);
    private static final Pattern TOLD = Pattern.compile("tell\\(x, \"([^\"]*)\"\\);" + ANSWER);
    private static final Pattern METHOD = Pattern.compile("\\| `((?:int|long) [^`]*)` \\|.*");

    public static void main(String[] args) throws IOException, ReflectiveOperationException {
        List<String> lines = Files.readAllLines(Path.of("README.md"));
        calls(lines);
        tables(lines);
        check.end();
    }

    private static void calls(List<String> lines) throws ReflectiveOperationException {
        HigherMoreLeft x = new HigherMoreLeft();
        int made = 0;
        for (String line : lines) {
            Matcher call = CALL.matcher(line);
            Matcher told = TOLD.matcher(line);
            if (line.equals("HigherMoreLeft x = new HigherMoreLeft();")) {
                x = new HigherMoreLeft();
            } else if (call.matches()) {
                check.due("README.md: " + line, answer(x, call.group(1), call.group(2)), Long.parseLong(call.group(3)));
                made++;
            } else if (told.matches()) {
                check.due("README.md: " + line, Check.tell(x, told.group(1)), Long.parseLong(told.group(2)));
                made++;
            } else {
                check.due("a call without an answer: " + line, line.startsWith("x.") || line.startsWith("tell(") ? 1 : 0, 0);
            }
        }
        check.due("README.md has calls", made > 0 ? 1 : 0, 1);
    }

    private static long answer(HigherMoreLeft x, String name, String arguments) throws ReflectiveOperationException {
        Object[] numbers = arguments.isEmpty()
                ? new Object[0] : Arrays.stream(arguments.split(", ")).map(Integer::valueOf).toArray();
        Class<?>[] types = new Class<?>[numbers.length];
        Arrays.fill(types, int.class);
        return ((Number) HigherMoreLeft.class.getMethod(name, types).invoke(x, numbers)).longValue();
    }

    private static void tables(List<String> lines) {
        List<String> told = lines.stream().map(METHOD::matcher).filter(Matcher::matches)
                .map(matcher -> matcher.group(1).replaceAll("int [a-z]+([,)])", "int$1")).collect(Collectors.toList());
        int many = 0;
        for (Method method : HigherMoreLeft.class.getDeclaredMethods()) {
            if (Modifier.isPublic(method.getModifiers())) {
                String arguments = Arrays.stream(method.getParameterTypes()).map(Class::getName)
                        .collect(Collectors.joining(", "));
                String face = method.getReturnType().getName() + " " + method.getName() + "(" + arguments + ")";
                check.due("lines of README.md for " + face, told.stream().filter(face::equals).count(), 1);
                many++;
            }
        }
        check.due("lines of README.md for methods", told.size(), many);
    }
}
