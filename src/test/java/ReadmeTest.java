import java.io.IOException;
import java.lang.reflect.InvocationTargetException;
import java.lang.reflect.Method;
import java.lang.reflect.Modifier;
import java.nio.file.Files;
import java.nio.file.Path;
import java.util.ArrayList;
import java.util.List;
import java.util.Set;
import java.util.TreeSet;
import java.util.regex.Matcher;
import java.util.regex.Pattern;
import java.util.stream.Stream;

/**
 * The calls that README.md shows, made in their order on one glacier: each must give the answer that
 * stands behind it. The page itself is read, so that it can't say anything else than what is tested.
 */
public final class ReadmeTest {
    private static final String MADE = "GlacierYears glacier = new GlacierYears();";
    private static final Pattern CALL =
            Pattern.compile("glacier\\.(\\w+)\\(([^()]*)\\); +// (throws \\w+|[-.\\w]+)(: .+)?");

    private final Set<String> shown = new TreeSet<>();
    private GlacierYears glacier = null;

    public static void main(String[] args) throws IOException {
        Path page = Path.of(args.length > 2 ? args[2] : "README.md");
        String text = Files.readString(page);
        new ReadmeTest().calls(text);
        runningTests(text, page.toAbsolutePath().getParent());
        Checks.end();
    }

    private void calls(String text) {
        for (String line : codeOf(text)) {
            if (line.equals(MADE)) {
                Checks.same("one glacier alone is made", "" + (glacier == null), "true");
                glacier = new GlacierYears();
            } else {
                call(line);
            }
        }
        for (Method method : GlacierYears.class.getDeclaredMethods()) {
            if (Modifier.isPublic(method.getModifiers())) {
                Checks.same("README.md shows " + method.getName(), "" + shown.contains(method.getName()), "true");
            }
        }
    }

    /** The lines between ```java and ```, without those that are empty. */
    private static List<String> codeOf(String text) {
        List<String> lines = new ArrayList<>();
        boolean inside = false;
        for (String line : text.split("\n")) {
            if (line.startsWith("```")) {
                inside = line.equals("```java");
            } else if (inside && !line.isBlank()) {
                lines.add(line);
            }
        }
        return lines;
    }

    private void call(String line) {
        Matcher call = CALL.matcher(line);
        boolean readable = glacier != null && call.matches();
        Checks.same("'" + line + "' is a call of the glacier with its answer", "" + readable, "true");
        if (readable) {
            shown.add(call.group(1));
            Checks.same("'" + line + "'", answer(call.group(1), call.group(2)), call.group(3));
        }
    }

    private String answer(String name, String arguments) {
        String[] texts = arguments.isEmpty() ? new String[0] : arguments.split(", ");
        for (Method method : GlacierYears.class.getMethods()) {
            if (method.getName().equals(name) && method.getParameterCount() == texts.length) {
                return answer(method, texts);
            }
        }
        return "no method " + name + " with " + texts.length + " arguments";
    }

    private String answer(Method method, String[] texts) {
        Object[] values = new Object[texts.length];
        for (int i = 0; i < texts.length; i++) {
            values[i] = value(method.getParameterTypes()[i], texts[i]);
            if (values[i] == null) {
                return texts[i] + " is not of the type that " + method.getName() + " asks for";
            }
        }
        try {
            return String.valueOf(method.invoke(glacier, values));
        } catch (InvocationTargetException e) {
            return "throws " + e.getCause().getClass().getSimpleName();
        } catch (IllegalAccessException e) {
            return "no access to " + method.getName();
        }
    }

    private static Object value(Class<?> type, String text) {
        if (type == boolean.class && text.matches("true|false")) {
            return Boolean.valueOf(text);
        }
        if (type == int.class && text.matches("-?\\d{1,9}")) {
            return Integer.valueOf(text);
        }
        return null;
    }

    /** That the page says how to run the tests, and what each of them is. */
    private static void runningTests(String text, Path project) throws IOException {
        Checks.same("README.md says '.ci/run'", "" + text.contains("```sh\n.ci/run\n```"), "true");
        Checks.same(".ci/run can be run", "" + Files.isExecutable(project.resolve(".ci/run")), "true");
        try (Stream<Path> files = Files.list(project.resolve("src/test/java"))) {
            for (Path file : files.toList()) {
                String name = file.getFileName().toString().replace(".java", "");
                if (name.endsWith("Test")) {
                    Checks.same("README.md tells of " + name, "" + text.contains("- `" + name + "`:"), "true");
                }
            }
        }
    }
}
