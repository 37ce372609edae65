import java.lang.reflect.Constructor;
import java.lang.reflect.Field;
import java.lang.reflect.Method;
import java.lang.reflect.Modifier;
import java.util.Set;
import java.util.TreeSet;

/** The class shows the document's face and nothing else. */
public final class FaceTest {
    private static final Set<String> FACE = Set.of(
        "public void QbfDesk.give(int,boolean)",
        "public int QbfDesk.add(int)",
        "public int QbfDesk.drop(int)",
        "public int QbfDesk.won(int)",
        "public int QbfDesk.choice(int)",
        "public int QbfDesk.count(int)",
        "public int QbfDesk.spare(int)",
        "public int QbfDesk.swapped(int)");

    public static void main(String[] args) {
        Checks checks = new Checks();
        int modifiers = QbfDesk.class.getModifiers();
        checks.due("public final class", modifiers, Modifier.PUBLIC | Modifier.FINAL);
        checks.due("nested classes", QbfDesk.class.getDeclaredClasses().length, 0);
        constructors(checks);
        methods(checks);
        fields(checks);
        checks.end();
    }

    private static void constructors(Checks checks) {
        Constructor<?>[] all = QbfDesk.class.getDeclaredConstructors();
        checks.due("constructors", all.length, 1);
        checks.due("public constructor", all[0].getModifiers(), Modifier.PUBLIC);
        checks.due("constructor's parameters", all[0].getParameterCount(), 0);
    }

    private static void methods(Checks checks) {
        Set<String> missing = new TreeSet<>(FACE);
        for (Method method : QbfDesk.class.getDeclaredMethods()) {
            if (!Modifier.isPrivate(method.getModifiers())) {
                checks.due(method + " is of the face", FACE.contains(method.toString()) ? 1 : 0, 1);
                missing.remove(method.toString());
            } else {
                boolean likeFace = FACE.stream().anyMatch(m -> m.contains("." + method.getName() + "("));
                checks.due(method + " bears a public name", likeFace ? 1 : 0, 0);
            }
        }
        checks.due("missing methods " + missing, missing.size(), 0);
    }

    private static void fields(Checks checks) {
        for (Field field : QbfDesk.class.getDeclaredFields()) {
            checks.due(field + " is private", Modifier.isPrivate(field.getModifiers()) ? 1 : 0, 1);
        }
    }
}
