import java.io.IOException;
import java.lang.reflect.Method;
import java.nio.file.Files;
import java.nio.file.Path;
import java.util.Set;
import java.util.TreeSet;
import java.util.regex.Matcher;
import java.util.regex.Pattern;

/** What README.md shows of each method is what the class answers, and no method is left out. */
public final class ReadmeTest {
    private static final Pattern EXAMPLE = Pattern.compile("x\\.(\\w+)\\((.*?)\\); +// (-?\\d+)\\b.*");

    public static void main(String[] args) throws IOException, ReflectiveOperationException {
        String readme = Files.readString(Path.of("README.md"));
        Set<String> shown = examples(readme);
        for (Method method : RunsFinder.class.getMethods()) {
            if (method.getDeclaringClass() != RunsFinder.class) {
                continue;
            }
            String name = method.getName();
            Check.due("an example of " + name, shown.contains(name) ? 1 : 0, 1);
            Check.due("a row of the table for " + name, readme.contains("\n| `" + name + "(") ? 1 : 0, 1);
        }
        Check.finish();
    }

    /** Makes the calls of the example in their order on one object; answers their names. */
    private static Set<String> examples(String readme) throws ReflectiveOperationException {
        RunsFinder x = new RunsFinder();
        Set<String> shown = new TreeSet<>();
        for (String line : readme.lines().toList()) {
            Matcher example = EXAMPLE.matcher(line);
            if (example.matches()) {
                shown.add(example.group(1));
                int got = call(x, example.group(1), example.group(2));
                Check.due(line, got, Integer.parseInt(example.group(3)));
            } else if (line.startsWith("x.")) {
                Check.fault("an example without an answer: " + line);
            }
        }
        return shown;
    }

    private static int call(RunsFinder x, String name, String list) throws ReflectiveOperationException {
        String[] words = list.isEmpty() ? new String[0] : list.split(", ");
        Class<?>[] types = new Class<?>[words.length];
        Object[] numbers = new Object[words.length];
        for (int k = 0; k < words.length; k++) {
            types[k] = int.class;
            numbers[k] = Integer.parseInt(words[k]);
        }
        return (int) RunsFinder.class.getMethod(name, types).invoke(x, numbers);
    }
}
