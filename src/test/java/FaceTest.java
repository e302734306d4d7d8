import java.lang.reflect.Constructor;
import java.lang.reflect.Field;
import java.lang.reflect.Method;
import java.lang.reflect.Modifier;
import java.util.Set;
import java.util.TreeSet;

/** That the class shows the document's public face and nothing more. */
public final class FaceTest {
    private static final Due due = new Due();
    private static final Set<String> METHODS = Set.of(
            "set/4", "clear/1", "pause/2", "skip/2", "load/2", "store/3", "sweep/2", "peek/1",
            "hits/1", "skips/1", "stops/0", "accesses/0", "kept/0", "stopMask/1", "stopAddress/1",
            "stopNumber/1", "before/1", "after/1", "watched/0");
    private static final Set<String> CONSTANTS = Set.of("READ", "WRITE", "ACCESS", "CHANGE");

    public static void main(String[] args) {
        theClass();
        theMethods();
        theFields();
        due.end();
    }

    private static void theClass() {
        Class<?> face = WatchpointUnit.class;
        due.isTrue("public", Modifier.isPublic(face.getModifiers()));
        due.isTrue("final", Modifier.isFinal(face.getModifiers()));
        due.isTrue("no superclass but Object", face.getSuperclass() == Object.class);
        due.is("interfaces", face.getInterfaces().length, 0);
        due.is("nested classes", face.getDeclaredClasses().length, 0);
        Constructor<?>[] constructors = face.getDeclaredConstructors();
        due.is("constructors", constructors.length, 1);
        due.is("its parameters", constructors[0].getParameterCount(), 0);
        due.isTrue("it is public", Modifier.isPublic(constructors[0].getModifiers()));
    }

    private static void theMethods() {
        Set<String> shown = new TreeSet<>();
        Set<String> shownNames = new TreeSet<>();
        for (Method method : WatchpointUnit.class.getDeclaredMethods()) {
            if (!Modifier.isPrivate(method.getModifiers())) {
                shown.add(method.getName() + "/" + method.getParameterCount());
                shownNames.add(method.getName());
                due.isTrue("public: " + method, Modifier.isPublic(method.getModifiers()));
                due.isTrue("not static: " + method, !Modifier.isStatic(method.getModifiers()));
                due.isTrue("answers an int: " + method, method.getReturnType() == int.class);
                for (Class<?> type : method.getParameterTypes()) {
                    due.isTrue("takes ints: " + method, type == int.class);
                }
            }
        }
        due.isTrue("the document's methods, not " + shown, shown.equals(METHODS));
        for (Method method : WatchpointUnit.class.getDeclaredMethods()) {
            if (Modifier.isPrivate(method.getModifiers())) {
                due.isTrue("a name of its own: " + method, !shownNames.contains(method.getName()));
            }
        }
    }

    private static void theFields() {
        Set<String> shown = new TreeSet<>();
        for (Field field : WatchpointUnit.class.getDeclaredFields()) {
            int modifiers = field.getModifiers();
            if (!Modifier.isPrivate(modifiers)) {
                shown.add(field.getName());
                due.isTrue("public static final: " + field, Modifier.isPublic(modifiers)
                        && Modifier.isStatic(modifiers) && Modifier.isFinal(modifiers));
                due.isTrue("an int: " + field, field.getType() == int.class);
            }
        }
        due.isTrue("the document's constants, not " + shown, shown.equals(CONSTANTS));
    }
}
