import java.io.IOException;
import java.lang.reflect.Method;
import java.lang.reflect.Modifier;
import java.nio.file.Files;
import java.nio.file.Path;
import java.util.Arrays;
import java.util.List;
import java.util.regex.Matcher;
import java.util.regex.Pattern;

/** README.md, read where .ci/run runs: its example answers what it says, and it names every public call. */
public final class ReadmeTest {
    private static final Pattern CALL = Pattern.compile("m\\.(\\w+)\\(([-\\d, ]*)\\); *// (true|false|-?\\d+)(:.*)?");
    private static final String FIRST_LINE = "ShieldedMachine m = new ShieldedMachine();";

    public static void main(String[] args) throws IOException, ReflectiveOperationException {
        List<String> lines = Files.readAllLines(Path.of("README.md"));
        exampleAnswersAsSaid(lines);
        everyCallIsNamed(String.join("\n", lines));
        Check.end();
    }

    private static void exampleAnswersAsSaid(List<String> lines) throws ReflectiveOperationException {
        int from = lines.indexOf("```java") + 1;
        int to = from + lines.subList(from, lines.size()).indexOf("```");
        Check.due("the example has calls", from > 0 && to > from + 1, true);
        Check.due("the example's first line", lines.get(from), FIRST_LINE);
        ShieldedMachine m = new ShieldedMachine();
        for (String line : lines.subList(from + 1, to)) {
            Matcher call = CALL.matcher(line);
            if (call.matches()) {
                Check.due(line, answer(m, call.group(1), call.group(2)), call.group(3));
            } else {
                Check.due("a call with its answer", line, "m.call(..);  // answer: why");
            }
        }
    }

    private static String answer(ShieldedMachine m, String name, String numbers) throws ReflectiveOperationException {
        Object[] values = Arrays.stream(numbers.split(", *")).filter(each -> !each.isEmpty()).map(Integer::valueOf).toArray();
        Class<?>[] types = new Class<?>[values.length];
        Arrays.fill(types, int.class);
        return "" + ShieldedMachine.class.getMethod(name, types).invoke(m, values);
    }

    private static void everyCallIsNamed(String text) {
        for (Method each : ShieldedMachine.class.getDeclaredMethods()) {
            if (Modifier.isPublic(each.getModifiers())) {
                Check.due("README.md has a row for " + each.getName(), text.contains("\n| `" + each.getName() + "("), true);
            }
        }
    }
}
