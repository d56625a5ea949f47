import java.lang.reflect.Field;
import java.lang.reflect.Modifier;
import java.util.ArrayList;
import java.util.Arrays;
import java.util.List;

/**
 * What an object holds inside. The document's words bind the object also where no later
 * call can tell: at 12 made, for one, nothing shows the trees below the topmost any more.
 */
final class Held {
    // Each call that reads it writes it first, so that nothing in it outlives a call:
    // TermsTest spoils it to see that.
    private static final String WORKING_SPACE = "runsOf";

    private static final List<Field> FIELDS = fields();

    private Held() {
    }

    static boolean same(TreeLanguages a, TreeLanguages b) {
        try {
            for (Field field : FIELDS) {
                if (!Arrays.deepEquals(new Object[] {field.get(a)}, new Object[] {field.get(b)})) {
                    return false;
                }
            }
            return true;
        } catch (IllegalAccessException closed) {
            throw new IllegalStateException(closed);
        }
    }

    static void set(TreeLanguages x, String name, int value) {
        try {
            for (Field field : FIELDS) {
                if (field.getName().equals(name)) {
                    field.setInt(x, value);
                    return;
                }
            }
        } catch (IllegalAccessException closed) {
            throw new IllegalStateException(closed);
        }
        Due.holds("there is a field " + name, false);
    }

    static void spoilWorkingSpace(TreeLanguages x) {
        try {
            Field field = TreeLanguages.class.getDeclaredField(WORKING_SPACE);
            field.setAccessible(true);
            Arrays.fill((int[]) field.get(x), 1);
        } catch (ReflectiveOperationException missing) {
            throw new IllegalStateException(missing);
        }
    }

    private static List<Field> fields() {
        List<Field> fields = new ArrayList<>();
        for (Field field : TreeLanguages.class.getDeclaredFields()) {
            if (!Modifier.isStatic(field.getModifiers()) && !field.getName().equals(WORKING_SPACE)) {
                field.setAccessible(true);
                fields.add(field);
            }
        }
        return fields;
    }
}
