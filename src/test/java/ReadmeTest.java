import java.io.IOException;
import java.lang.reflect.Method;
import java.lang.reflect.Modifier;
import java.nio.file.Files;
import java.nio.file.Path;
import java.util.Arrays;
import java.util.List;
import java.util.regex.Matcher;
import java.util.regex.Pattern;

/** What README.md says is so: its example answers as told there, and its table has each call with its exceptions. */
public final class ReadmeTest {
    private static final Pattern CALL = Pattern.compile("plan\\.(\\w+)\\(([^)]*)\\);\\s+// (throws \\w+|\\w+).*");
    private static final Pattern EXCEPTION = Pattern.compile("\\b\\w+Exception\\b");

    public static void main(String[] args) throws IOException {
        String readme = Files.readString(Path.of("README.md"));
        example(readme);
        for (Method method : CanteenPlan.class.getDeclaredMethods()) {
            if (Modifier.isPublic(method.getModifiers())) {
                row(readme, method);
                Check.same("the example shows " + method.getName(),
                        "" + readme.contains("plan." + method.getName() + "("), "true");
            }
        }
        Check.end();
    }

    private static void example(String readme) {
        CanteenPlan plan = new CanteenPlan();
        readme.lines().filter(line -> line.startsWith("plan.")).forEach(line -> {
            Matcher m = CALL.matcher(line);
            if (m.matches()) {
                String due = m.group(3).replace("throws ", "throws.").replace("void", "null");
                Check.same(line, Check.ask(plan, m.group(1), numbers(m.group(2))), due);
            } else {
                Check.same(line, "no call with its answer", "one");
            }
        });
    }

    private static int[] numbers(String written) {
        String[] words = written.isEmpty() ? new String[0] : written.split(", ");
        return Arrays.stream(words).mapToInt(ReadmeTest::number).toArray();
    }

    private static int number(String written) {
        return written.startsWith("0b") ? Integer.parseInt(written.substring(2), 2) : Integer.parseInt(written);
    }

    private static void row(String readme, Method method) {
        String name = method.getName();
        String row = readme.lines().filter(line -> line.startsWith("| `" + name + "(")).findFirst().orElse("no row");
        String call = row.replaceAll("^\\| `([^`]*)`.*$", "$1");
        long arguments = call.contains("()") ? 0 : call.chars().filter(c -> c == ',').count() + 1;
        Check.same(name + ", its arguments in " + call, "" + arguments, "" + method.getParameterCount());
        List<String> told = EXCEPTION.matcher(row).results().map(r -> r.group()).sorted().toList();
        List<String> due = Arrays.stream(method.getExceptionTypes()).map(Class::getSimpleName).sorted().toList();
        Check.same(name + ", its exceptions", told.toString(), due.toString());
    }
}
