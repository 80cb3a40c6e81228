import java.lang.reflect.Constructor;
import java.lang.reflect.Field;
import java.lang.reflect.Method;
import java.lang.reflect.Modifier;
import java.util.Arrays;
import java.util.Set;
import java.util.TreeSet;

// The class has the public face of the document and shows nothing else.
public final class FaceTest {
    private static int wrong = 0;

    public static void main(String[] args) throws IllegalAccessException {
        due("class modifiers", Modifier.toString(MvbTree.class.getModifiers()), "public final");
        due("superclass", MvbTree.class.getSuperclass(), Object.class);
        due("interfaces", MvbTree.class.getInterfaces().length, 0);
        due("nested classes", MvbTree.class.getDeclaredClasses().length, 0);
        due("constants", shownFields(), new TreeSet<>(Set.of(
                "public static final int BAD_KEY = -1",
                "public static final int NO_KEY = -2",
                "public static final int HISTORY_FULL = -3",
                "public static final int FULL = -4",
                "public static final int BAD_VERSION = -5",
                "public static final int NONE = 100000")));
        due("constructors", shownConstructors(), new TreeSet<>(Set.of("public []")));
        due("methods", shownMethods(), new TreeSet<>(Set.of(
                "public int put[int, int]",
                "public int erase[int]",
                "public int forget[int]",
                "public int current[]",
                "public int oldest[]",
                "public boolean has[int, int]",
                "public int get[int, int]",
                "public int count[int, int, int]",
                "public int sum[int, int, int]",
                "public int next[int, int]",
                "public int keyAt[int, int]",
                "public int differ[int, int, int, int]",
                "public int since[int]")));
        System.out.println(wrong == 0 ? "the face is as due" : wrong + " parts are not as due");
        if (wrong != 0) {
            System.exit(1);
        }
    }

    private static Set<String> shownFields() throws IllegalAccessException {
        Set<String> shown = new TreeSet<>();
        for (Field field : MvbTree.class.getDeclaredFields()) {
            int modifiers = field.getModifiers();
            if (Modifier.isPrivate(modifiers)) {
                continue;
            }
            String value = Modifier.isStatic(modifiers) ? " = " + field.get(null) : "";
            shown.add(Modifier.toString(modifiers) + " " + field.getType() + " " + field.getName() + value);
        }
        return shown;
    }

    private static Set<String> shownConstructors() {
        Set<String> shown = new TreeSet<>();
        for (Constructor<?> constructor : MvbTree.class.getDeclaredConstructors()) {
            shown.add(Modifier.toString(constructor.getModifiers()) + " "
                    + Arrays.toString(constructor.getParameterTypes()));
        }
        return shown;
    }

    private static Set<String> shownMethods() {
        Set<String> shown = new TreeSet<>();
        for (Method method : MvbTree.class.getDeclaredMethods()) {
            if (!Modifier.isPrivate(method.getModifiers())) {
                shown.add(Modifier.toString(method.getModifiers()) + " " + method.getReturnType() + " "
                        + method.getName() + Arrays.toString(method.getParameterTypes()));
            }
        }
        return shown;
    }

    private static void due(String what, Object got, Object want) {
        if (!got.equals(want)) {
            wrong++;
            System.out.println(what + ": is " + got + ", due is " + want);
        }
    }
}
