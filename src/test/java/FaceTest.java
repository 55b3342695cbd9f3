import java.io.IOException;
import java.lang.reflect.Field;
import java.lang.reflect.Method;
import java.lang.reflect.Modifier;
import java.nio.charset.StandardCharsets;
import java.nio.file.Files;
import java.nio.file.Path;
import java.util.Arrays;
import java.util.TreeSet;

/** The class shows the document's face and nothing else, and its text keeps out of what LANGUAGE.md rules out. */
public final class FaceTest {
    private static final String[] FACE = {
        "int state(int, boolean) IllegalArgumentException IllegalStateException",
        "boolean edge(int, int, int, int) IllegalArgumentException",
        "void clear(int) IllegalArgumentException",
        "int unite(int, int, int) IllegalArgumentException IllegalStateException",
        "int trim(int) IllegalArgumentException",
        "boolean empty(int) IllegalArgumentException",
        "boolean takes(int, int, int, int, int) IllegalArgumentException",
        "boolean included(int, int) IllegalArgumentException IllegalStateException",
        "int witness(int) IllegalArgumentException NoSuchElementException",
        "int states(int) IllegalArgumentException",
        "boolean good(int, int) IllegalArgumentException",
        "boolean has(int, int, int, int) IllegalArgumentException"
    };
    private static final String[] RULED_OUT = {
        "->", "::", "finally", "synchronized", "assert ", "java.io", "java.time", "java.nio", "Random", "Thread",
        "System.nano", "System.current", "System.out", "hashCode", "toString", "package ", "getMessage", "Exact("
    };
    private static int wrong = 0;

    private static void fault(String text) {
        wrong++;
        System.out.println(text);
    }

    private static String told(Method method) {
        StringBuilder text = new StringBuilder();
        text.append(method.getReturnType().getSimpleName()).append(' ').append(method.getName()).append('(');
        Class<?>[] types = method.getParameterTypes();
        for (int i = 0; i < types.length; i++) {
            text.append(i == 0 ? "" : ", ").append(types[i].getSimpleName());
        }
        text.append(')');
        for (Class<?> type : method.getExceptionTypes()) {
            text.append(' ').append(type.getSimpleName());
        }
        return text.toString();
    }

    private static void members() {
        TreeSet<String> shown = new TreeSet<>();
        TreeSet<String> names = new TreeSet<>();
        for (Method method : OmegaDesk.class.getDeclaredMethods()) {
            if (!Modifier.isPrivate(method.getModifiers())) {
                shown.add(told(method));
                names.add(method.getName());
            }
        }
        if (!shown.equals(new TreeSet<>(Arrays.asList(FACE)))) {
            fault("the methods are " + shown);
        }
        for (Method method : OmegaDesk.class.getDeclaredMethods()) {
            if (Modifier.isPrivate(method.getModifiers()) && names.contains(method.getName())) {
                fault("a private method bears a public name: " + method);
            }
        }
        for (Field field : OmegaDesk.class.getDeclaredFields()) {
            if (!Modifier.isPrivate(field.getModifiers())) {
                fault("a field is not private: " + field);
            }
        }
        if (OmegaDesk.class.getDeclaredConstructors().length != 1 || OmegaDesk.class.getConstructors().length != 1
            || OmegaDesk.class.getConstructors()[0].getParameterCount() != 0) {
            fault("there is not just the one constructor");
        }
        int modifiers = OmegaDesk.class.getModifiers();
        if (!Modifier.isPublic(modifiers) || !Modifier.isFinal(modifiers)) {
            fault("the class is not public and final");
        }
    }

    private static void classesInside() {
        Class<?>[] inside = OmegaDesk.class.getDeclaredClasses();
        if (inside.length > 11) {
            fault("there are " + inside.length + " classes inside");
        }
        for (Class<?> type : inside) {
            int modifiers = type.getModifiers();
            if (Modifier.isPublic(modifiers) || Modifier.isProtected(modifiers) || !Modifier.isStatic(modifiers)) {
                fault("a class inside is public, protected or not static: " + type);
            }
            for (Field field : type.getDeclaredFields()) {
                if (Modifier.isStatic(field.getModifiers()) && !Modifier.isFinal(field.getModifiers())) {
                    fault("a static field is not final: " + field);
                }
            }
        }
    }

    private static void text() throws IOException {
        Path path = Path.of("src/main/java/OmegaDesk.java");
        String text = new String(Files.readAllBytes(path), StandardCharsets.ISO_8859_1);
        for (String word : RULED_OUT) {
            if (text.contains(word)) {
                fault("the program holds " + word);
            }
        }
    }

    public static void main(String[] args) throws IOException {
        members();
        classesInside();
        text();
        System.out.println(wrong == 0 ? "the face is as due" : wrong + " faults");
        if (wrong != 0) {
            System.exit(1);
        }
    }
}
