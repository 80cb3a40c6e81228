import java.io.IOException;
import java.lang.reflect.Field;
import java.lang.reflect.InvocationTargetException;
import java.lang.reflect.Method;
import java.lang.reflect.Modifier;
import java.nio.file.Files;
import java.nio.file.Path;
import java.util.Arrays;
import java.util.Set;
import java.util.TreeMap;
import java.util.TreeSet;
import java.util.regex.Matcher;
import java.util.regex.Pattern;

// What README.md tells of the class is so; it is run from the project's root.
public final class ReadmeTest {
    private static final Pattern CALL = Pattern.compile("store\\.(\\w+)\\(([-\\d, ]*)\\);\\s+// (\\S+)");

    private static int wrong = 0;

    public static void main(String[] args) throws IOException, ReflectiveOperationException {
        String readme = Files.readString(Path.of("README.md"));
        exampleAnswersAsTold(readme);
        callsAreTold(readme);
        constantsAreTold(readme);
        System.out.println(wrong == 0 ? "the README is as due" : wrong + " parts are not as due");
        if (wrong != 0) {
            System.exit(1);
        }
    }

    private static void broken(String what) {
        wrong++;
        System.out.println(what);
    }

    private static void exampleAnswersAsTold(String readme) throws ReflectiveOperationException {
        Matcher block = Pattern.compile("```java\n(.*?)```", Pattern.DOTALL).matcher(readme);
        if (!block.find()) {
            broken("no example");
            return;
        }
        String[] lines = block.group(1).split("\n");
        if (!lines[0].equals("MvbTree store = new MvbTree();")) {
            broken("the example begins with " + lines[0]);
        }
        MvbTree store = new MvbTree();
        Set<String> shown = new TreeSet<>();
        for (String line : Arrays.copyOfRange(lines, 1, lines.length)) {
            Matcher call = CALL.matcher(line);
            if (!call.matches()) {
                broken("not a call with its answer: " + line);
                continue;
            }
            shown.add(call.group(1));
            Object got = answer(store, call.group(1), call.group(2));
            if (!String.valueOf(got).equals(call.group(3))) {
                broken(line + " answered " + got);
            }
        }
        if (!shown.equals(publicCalls().keySet())) {
            broken("the example shows " + shown + ", the class has " + publicCalls().keySet());
        }
    }

    private static Object answer(MvbTree store, String name, String list)
            throws IllegalAccessException, InvocationTargetException {
        Object[] arguments = Arrays.stream(list.split(", ")).filter(word -> !word.isEmpty())
                .map(Integer::valueOf).toArray();
        Method method = publicCalls().get(name);
        boolean fits = method != null && method.getParameterCount() == arguments.length;
        return fits ? method.invoke(store, arguments) : "nothing: there is no such call";
    }

    private static TreeMap<String, Method> publicCalls() {
        TreeMap<String, Method> calls = new TreeMap<>();
        for (Method method : MvbTree.class.getDeclaredMethods()) {
            if (Modifier.isPublic(method.getModifiers())) {
                calls.put(method.getName(), method);
            }
        }
        return calls;
    }

    // Each has a row of its own in one of the two tables of calls.
    private static void callsAreTold(String readme) {
        for (Method method : publicCalls().values()) {
            Matcher row = Pattern.compile("(?m)^\\| `" + method.getName() + "\\(([\\w, ]*)\\)` \\|").matcher(readme);
            if (!row.find()) {
                broken("no row tells of " + method.getName());
                continue;
            }
            long told = Arrays.stream(row.group(1).split(", ")).filter(word -> !word.isEmpty()).count();
            if (told != method.getParameterCount()) {
                broken("parameters of " + method.getName() + ": " + told);
            }
        }
    }

    private static void constantsAreTold(String readme) throws IllegalAccessException {
        for (Field field : MvbTree.class.getFields()) {
            String row = "| `" + field.getName() + "` | " + field.get(null) + " |";
            if (!readme.contains(row)) {
                broken("no row begins with " + row);
            }
        }
    }
}
