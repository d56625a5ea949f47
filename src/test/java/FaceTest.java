import java.lang.reflect.Constructor;
import java.lang.reflect.Field;
import java.lang.reflect.Method;
import java.lang.reflect.Modifier;
import java.util.Map;
import java.util.TreeMap;

/** The public face: every constant, constructor and method of the document, and no other. */
public final class FaceTest {
    private static final Map<String, Integer> PARAMETERS = new TreeMap<>(Map.ofEntries(
            Map.entry("leafRule", 3), Map.entry("oneRule", 3), Map.entry("twoRule", 3),
            Map.entry("finals", 2), Map.entry("leaf", 1), Map.entry("one", 0),
            Map.entry("two", 0), Map.entry("discard", 0), Map.entry("size", 0),
            Map.entry("letter", 1), Map.entry("rank", 0), Map.entry("states", 1),
            Map.entry("runs", 1), Map.entry("count", 2), Map.entry("least", 1),
            Map.entry("load", 3)));

    public static void main(String[] args) {
        constants();
        classAndConstructor();
        methods();
        fields();
        Due.end();
    }

    private static void constants() {
        Due.due("BAD_ARG", TreeLanguages.BAD_ARG, -1);
        Due.due("FULL", TreeLanguages.FULL, -2);
        Due.due("TOO_FEW", TreeLanguages.TOO_FEW, -3);
        Due.due("NONE", TreeLanguages.NONE, -4);
    }

    private static void classAndConstructor() {
        int form = TreeLanguages.class.getModifiers();
        Due.holds("the class is public and final", Modifier.isPublic(form) && Modifier.isFinal(form));
        Constructor<?>[] all = TreeLanguages.class.getDeclaredConstructors();
        Due.due("constructors", all.length, 1);
        Due.holds("the constructor is public", Modifier.isPublic(all[0].getModifiers()));
        Due.due("parameters of the constructor", all[0].getParameterCount(), 0);
    }

    private static void methods() {
        Map<String, Integer> found = new TreeMap<>();
        for (Method method : TreeLanguages.class.getDeclaredMethods()) {
            String name = method.getName();
            boolean isPublic = Modifier.isPublic(method.getModifiers());
            Due.holds(name + " is public or private", isPublic || Modifier.isPrivate(method.getModifiers()));
            if (isPublic) {
                found.put(name, method.getParameterCount());
                Due.holds(name + " answers an int", method.getReturnType() == int.class);
                Due.holds(name + " is not static", !Modifier.isStatic(method.getModifiers()));
            } else {
                Due.holds(name + " is not a public name", !PARAMETERS.containsKey(name));
            }
            for (Class<?> type : method.getParameterTypes()) {
                Due.holds(name + " takes whole numbers", !isPublic || type == int.class);
            }
        }
        Due.holds("the public methods are " + PARAMETERS + ", found " + found, found.equals(PARAMETERS));
    }

    private static void fields() {
        int constants = 0;
        for (Field field : TreeLanguages.class.getDeclaredFields()) {
            int form = field.getModifiers();
            if (Modifier.isPublic(form)) {
                constants++;
                Due.holds(field + " is a constant", Modifier.isStatic(form) && Modifier.isFinal(form));
            } else {
                Due.holds(field + " is private", Modifier.isPrivate(form));
            }
        }
        Due.due("public constants", constants, 4);
    }
}
