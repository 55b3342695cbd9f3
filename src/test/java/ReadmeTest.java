import java.io.IOException;
import java.lang.reflect.InvocationTargetException;
import java.lang.reflect.Method;
import java.lang.reflect.Modifier;
import java.nio.file.Files;
import java.nio.file.Path;
import java.util.regex.Matcher;
import java.util.regex.Pattern;

/** README.md tells the truth: its example's calls answer what their comments begin with, and its table has all calls. */
public final class ReadmeTest extends Checks {
    private static final Pattern CALL = Pattern.compile("desk\\.(\\w+)\\(([^)]*)\\); *// (\\w+).*");
    private static final int FEWEST_CALLS = 20;

    private static Object argument(String text) {
        if (text.equals("true") || text.equals("false")) {
            return Boolean.valueOf(text);
        }
        return text.startsWith("0b") ? Integer.parseInt(text.substring(2), 2) : Integer.parseInt(text);
    }

    private static Method methodNamed(String name) {
        for (Method method : OmegaDesk.class.getMethods()) {
            if (method.getName().equals(name)) {
                return method;
            }
        }
        throw new IllegalStateException("README.md calls " + name + ", which is not there");
    }

    private static String answer(OmegaDesk desk, String name, String list) throws IllegalAccessException {
        String[] texts = list.split(", ");
        Object[] arguments = new Object[texts.length];
        for (int i = 0; i < texts.length; i++) {
            arguments[i] = argument(texts[i]);
        }
        try {
            return String.valueOf(methodNamed(name).invoke(desk, arguments));
        } catch (InvocationTargetException e) {
            return e.getCause().getClass().getSimpleName();
        }
    }

    private static void example(String text) throws IllegalAccessException {
        OmegaDesk desk = new OmegaDesk();
        int calls = 0;
        for (String line : text.split("\n")) {
            Matcher call = CALL.matcher(line);
            if (line.startsWith("desk.") && !call.matches()) {
                fault("no answer is told: " + line);
            } else if (line.startsWith("desk.")) {
                calls++;
                String got = answer(desk, call.group(1), call.group(2));
                if (!got.equals(call.group(3))) {
                    fault("answered " + got + ": " + line);
                }
            }
        }
        if (calls < FEWEST_CALLS) {
            fault("the example has only " + calls + " calls");
        }
    }

    private static void table(String text) {
        for (Method method : OmegaDesk.class.getDeclaredMethods()) {
            if (Modifier.isPublic(method.getModifiers()) && !text.contains("| `" + method.getName() + "(")) {
                fault("the table lacks " + method.getName());
            }
        }
    }

    public static void main(String[] args) throws IOException, IllegalAccessException {
        String text = Files.readString(Path.of("README.md"));
        example(text);
        table(text);
        end();
    }
}
