import java.io.IOException;
import java.lang.reflect.Method;
import java.lang.reflect.Modifier;
import java.nio.file.Files;
import java.nio.file.Path;
import java.util.Arrays;
import java.util.List;
import java.util.Map;
import java.util.regex.Matcher;
import java.util.regex.Pattern;

/** README.md: each row of its example answers what stands behind it, and no call is left out. */
public final class ReadmeTest {
    private static final Pattern ROW = Pattern.compile("x\\.(\\w+)\\(([0-9, ]+)\\); +// ([^:]+)(:.*)?");
    private static final Map<String, String> CODES = Map.of("BAD_ARG", "-1", "FULL", "-2", "NONE", "-4");

    public static void main(String[] args) throws IOException, ReflectiveOperationException {
        List<String> lines = Files.readAllLines(Path.of("README.md"));
        example(lines);
        everyCallIsTold(lines);
        Check.due("how to run the tests", lines.contains(".ci/run"), true);
        Check.end();
    }

    private static void example(List<String> lines) throws ReflectiveOperationException {
        CoxeterWords x = new CoxeterWords();
        int rows = 0;
        for (String line : lines) {
            if (line.startsWith("x.")) {
                row(x, line);
                rows++;
            }
        }
        Check.due("rows in the example", rows > 0, true);
    }

    private static void row(CoxeterWords x, String line) throws ReflectiveOperationException {
        Matcher row = ROW.matcher(line);
        boolean read = row.matches();
        Check.due("readable: " + line, read, true);
        if (read) {
            Object[] numbers = Arrays.stream(row.group(2).split(", ")).map(Integer::valueOf).toArray();
            Class<?>[] types = new Class<?>[numbers.length];
            Arrays.fill(types, int.class);
            Method call = CoxeterWords.class.getMethod(row.group(1), types);
            String answer = call.invoke(x, numbers).toString();
            Check.due(line, answer, CODES.getOrDefault(row.group(3), row.group(3)));
        }
    }

    private static void everyCallIsTold(List<String> lines) {
        for (Method method : CoxeterWords.class.getDeclaredMethods()) {
            if (Modifier.isPublic(method.getModifiers())) {
                String start = "| `" + method.getName() + "(";
                Check.due("told: " + method.getName(),
                        lines.stream().filter(line -> line.startsWith(start)).count(), 1);
            }
        }
    }
}
