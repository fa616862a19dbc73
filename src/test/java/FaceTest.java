import java.lang.reflect.Constructor;
import java.lang.reflect.Field;
import java.lang.reflect.Method;
import java.lang.reflect.Modifier;
import java.util.Set;
import java.util.TreeSet;

/** The class has the constants, the constructor and the methods of the document, and shows nothing else. */
public final class FaceTest {
    private static final String[] METHODS = {
        "make/3", "field/3", "root/2", "collect/0", "sweep/0", "dump/1", "objects/0", "garbage/0", "leaked/0",
        "alive/1", "bytes/2", "dominator/2", "retained/2", "retainedByKind/2", "heaviest/1", "depth/2", "way/3",
        "holders/2", "rings/1", "greatestRing/1", "fresh/0", "grown/0"
    };
    private static final String[] CONSTANTS = {"BAD_ARG", "FULL", "NONE"};

    public static void main(String[] args) {
        Checks checks = new Checks("FaceTest");
        checks.about("the public face");
        checks.due("BAD_ARG", HeapProfiler.BAD_ARG, -1);
        checks.due("FULL", HeapProfiler.FULL, -2);
        checks.due("NONE", HeapProfiler.NONE, -3);
        checks.holds("the class is public and final", isPublicAndFinal());
        checks.holds("there is one constructor, public and without parameters", hasOneConstructor());
        checks.holds("the methods that show are those of the document", visibleMethods().equals(setOf(METHODS)));
        checks.holds("the fields that show are the constants", visibleFields().equals(setOf(CONSTANTS)));
        checks.holds("no class is nested", HeapProfiler.class.getDeclaredClasses().length == 0);
        checks.end();
    }

    private static boolean isPublicAndFinal() {
        int modifiers = HeapProfiler.class.getModifiers();
        return Modifier.isPublic(modifiers) && Modifier.isFinal(modifiers);
    }

    private static boolean hasOneConstructor() {
        Constructor<?>[] all = HeapProfiler.class.getDeclaredConstructors();
        return all.length == 1 && all[0].getParameterCount() == 0 && Modifier.isPublic(all[0].getModifiers());
    }

    private static Set<String> visibleMethods() {
        Set<String> names = new TreeSet<>();
        for (Method method : HeapProfiler.class.getDeclaredMethods()) {
            if (!Modifier.isPrivate(method.getModifiers())) {
                boolean asDue = Modifier.isPublic(method.getModifiers()) && !Modifier.isStatic(method.getModifiers())
                        && method.getReturnType() == int.class && takesNumbersOnly(method);
                names.add(method.getName() + "/" + method.getParameterCount() + (asDue ? "" : " of another form"));
            }
        }
        return names;
    }

    private static boolean takesNumbersOnly(Method method) {
        for (Class<?> type : method.getParameterTypes()) {
            if (type != int.class) {
                return false;
            }
        }
        return true;
    }

    private static Set<String> visibleFields() {
        Set<String> names = new TreeSet<>();
        for (Field field : HeapProfiler.class.getDeclaredFields()) {
            if (!Modifier.isPrivate(field.getModifiers())) {
                int constant = Modifier.PUBLIC | Modifier.STATIC | Modifier.FINAL;
                boolean asDue = field.getModifiers() == constant && field.getType() == int.class;
                names.add(field.getName() + (asDue ? "" : " of another form"));
            }
        }
        return names;
    }

    private static Set<String> setOf(String[] names) {
        return new TreeSet<>(Set.of(names));
    }
}
