import java.io.IOException;
import java.lang.reflect.Method;
import java.lang.reflect.Modifier;
import java.nio.file.Files;
import java.nio.file.Path;
import java.util.Set;
import java.util.TreeSet;
import java.util.regex.Matcher;
import java.util.regex.Pattern;

/** The example of README.md: every call in it answers what is written beside it. */
public final class ReadmeTest {
    private static final Pattern CALL = Pattern.compile("x\\.(\\w+)\\(([-0-9, ]*)\\);\\s*// ([-\\w]+)(:.*)?");

    private static final Set<String> CALLED = new TreeSet<>();

    public static void main(String[] args) throws IOException, ReflectiveOperationException {
        TreeLanguages x = new TreeLanguages();
        boolean inside = false;
        for (String line : Files.readAllLines(Path.of("README.md"))) {
            if (line.startsWith("```")) {
                inside = line.equals("```java");
            } else if (inside && !isOther(line)) {
                call(x, line);
            }
        }
        everyMethodIsShown();
        Due.end();
    }

    private static boolean isOther(String line) {
        return line.isEmpty() || line.startsWith("//") || line.equals("TreeLanguages x = new TreeLanguages();");
    }

    private static void call(TreeLanguages x, String line) throws ReflectiveOperationException {
        Matcher parts = CALL.matcher(line);
        if (!parts.matches()) {
            Due.holds("this is a call with its answer: " + line, false);
            return;
        }
        CALLED.add(parts.group(1));
        Due.due(line, answer(x, parts.group(1), parts.group(2)), number(parts.group(3)));
    }

    private static int answer(TreeLanguages x, String name, String list) throws ReflectiveOperationException {
        String[] texts = list.isEmpty() ? new String[0] : list.split(", ");
        Object[] values = new Object[texts.length];
        Class<?>[] types = new Class<?>[texts.length];
        for (int i = 0; i < texts.length; i++) {
            values[i] = Integer.valueOf(texts[i]);
            types[i] = int.class;
        }
        return (int) TreeLanguages.class.getMethod(name, types).invoke(x, values);
    }

    private static int number(String answer) throws ReflectiveOperationException {
        return Character.isLetter(answer.charAt(0))
                ? TreeLanguages.class.getField(answer).getInt(null) : Integer.parseInt(answer);
    }

    private static void everyMethodIsShown() {
        for (Method method : TreeLanguages.class.getDeclaredMethods()) {
            if (Modifier.isPublic(method.getModifiers())) {
                Due.holds(method.getName() + " is in the example", CALLED.contains(method.getName()));
            }
        }
    }
}
