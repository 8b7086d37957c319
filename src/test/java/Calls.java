import java.lang.reflect.InvocationTargetException;
import java.lang.reflect.Method;
import java.util.regex.Matcher;
import java.util.regex.Pattern;

/** Calls that stand somewhere as text, such as "sweep(0, 0, 1, 0, 2)". */
final class Calls {
    private static final Pattern CALL = Pattern.compile("(\\w+)\\(([^()]*)\\)");

    private Calls() {
    }

    /** The answer as text; a call that can't be read, or that throws, has a text of its own that is never due. */
    static String answer(SetterBench bench, String call) {
        Matcher parts = CALL.matcher(call.trim());
        if (!parts.matches()) {
            return "(not read as a call)";
        }
        for (Method method : SetterBench.class.getDeclaredMethods()) {
            if (method.getName().equals(parts.group(1))) {
                return answer(bench, method, parts.group(2));
            }
        }
        return "(no such call)";
    }

    private static String answer(SetterBench bench, Method method, String arguments) {
        try {
            return String.valueOf(method.invoke(bench, numbers(arguments)));
        } catch (InvocationTargetException thrown) {
            return "(thrown: " + thrown.getCause() + ")";
        } catch (IllegalAccessException | IllegalArgumentException unlike) {
            return "(not called: " + unlike + ")";
        }
    }

    private static Object[] numbers(String arguments) {
        if (arguments.isBlank()) {
            return new Object[0];
        }
        String[] texts = arguments.split(",");
        Object[] numbers = new Object[texts.length];
        for (int i = 0; i < texts.length; i++) {
            numbers[i] = Integer.valueOf(texts[i].trim());
        }
        return numbers;
    }
}
