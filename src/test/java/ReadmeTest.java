import java.io.IOException;
import java.lang.reflect.Method;
import java.lang.reflect.Modifier;
import java.nio.file.Files;
import java.nio.file.Path;
import java.util.List;
import java.util.Set;
import java.util.TreeSet;
import java.util.regex.Matcher;
import java.util.regex.Pattern;

/** README.md answers as the class does: its examples are run from its own lines. Runs in the project's folder. */
public final class ReadmeTest {
    private static final Pattern EXAMPLE = Pattern.compile("bench\\.(.*\\));\\s+// (-?\\d+|true|false)(:.*)?");

    private final Check check = new Check();
    private final Set<String> shown = new TreeSet<>();

    public static void main(String[] args) throws IOException {
        ReadmeTest test = new ReadmeTest();
        List<String> lines = Files.readAllLines(Path.of("README.md"));
        test.examples(lines);
        test.calls(String.join("\n", lines));
        test.check.end();
    }

    private void examples(List<String> lines) {
        boolean inJava = false;
        SetterBench bench = null;
        for (String line : lines) {
            if (line.startsWith("```")) {
                inJava = line.equals("```java");
            } else if (inJava && line.equals("SetterBench bench = new SetterBench();")) {
                bench = new SetterBench();
            } else if (inJava) {
                example(bench, line);
            }
        }
    }

    private void example(SetterBench bench, String line) {
        Matcher parts = EXAMPLE.matcher(line);
        boolean read = bench != null && parts.matches();
        check.due("read as an example: " + line, read, true);
        if (read) {
            String call = parts.group(1);
            shown.add(call.substring(0, call.indexOf('(')));
            check.due(line, Calls.answer(bench, call), parts.group(2));
        }
    }

    private void calls(String readme) {
        for (Method method : SetterBench.class.getDeclaredMethods()) {
            if (Modifier.isPublic(method.getModifiers())) {
                String call = method.getReturnType() + " " + method.getName();
                check.due(call + " has a row", readme.contains("| `" + call + "("), true);
                check.due(call + " has an example", shown.contains(method.getName()), true);
            }
        }
    }
}
