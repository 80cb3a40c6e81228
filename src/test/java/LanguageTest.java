import java.io.IOException;
import java.lang.reflect.Field;
import java.lang.reflect.Method;
import java.lang.reflect.Modifier;
import java.nio.file.Files;
import java.nio.file.Path;
import java.util.HashSet;
import java.util.Map;
import java.util.Set;
import java.util.TreeMap;
import java.util.TreeSet;
import java.util.regex.Matcher;
import java.util.regex.Pattern;

// Rules of LANGUAGE.md that a test can see; it is run from the project's root.
public final class LanguageTest {
    private static final Path PROGRAM = Path.of("src/main/java/MvbTree.java");

    private static int wrong = 0;

    public static void main(String[] args) throws IOException {
        String code = withoutComments(Files.readString(PROGRAM));
        noForbiddenWords(code);
        noCallOnAnObject(code);
        arraysAreMadeInFields(code);
        fieldsAreNumbersAndArrays();
        methodNamesAreApart();
        methodsAreShort(code);
        callsAreShallow(code);
        noCallInArguments(code);
        noCallThrows();
        System.out.println(wrong == 0 ? "the rules are kept" : wrong + " rules are broken");
        if (wrong != 0) {
            System.exit(1);
        }
    }

    private static void broken(String what) {
        wrong++;
        System.out.println(what);
    }

    private static String withoutComments(String source) {
        return source.replaceAll("(?s)/\\*.*?\\*/", " ").replaceAll("//[^\n]*", " ");
    }

    private static void noForbiddenWords(String code) {
        Matcher word = Pattern.compile("\\b(package|import|throw|throws|try|catch|synchronized|assert|instanceof|null"
                + "|float|double|var|String|Object|Integer|Math|System|Arrays|interface|enum|record|protected"
                + "|super|native|yield)\\b|->|::|\"").matcher(code);
        while (word.find()) {
            broken("forbidden: " + word.group());
        }
    }

    private static void noCallOnAnObject(String code) {
        Matcher call = Pattern.compile("\\.\\s*\\w+").matcher(code);
        while (call.find()) {
            broken("a member of an object is used: " + call.group());
        }
    }

    private static void arraysAreMadeInFields(String code) {
        Matcher made = Pattern.compile("\\bnew\\b").matcher(code);
        int all = 0;
        while (made.find()) {
            all++;
        }
        Matcher field = Pattern.compile("private final int\\[\\] \\w+ = new int\\[[A-Z_]+\\];").matcher(code);
        int inFields = 0;
        while (field.find()) {
            inFields++;
        }
        if (all != inFields) {
            broken("made outside the fields: " + (all - inFields));
        }
    }

    private static void fieldsAreNumbersAndArrays() {
        int beside = 0;
        for (Field field : MvbTree.class.getDeclaredFields()) {
            Class<?> type = field.getType();
            boolean isStatic = Modifier.isStatic(field.getModifiers());
            boolean fits = isStatic ? type == int.class && Modifier.isFinal(field.getModifiers())
                    : type == int.class || type == int[].class;
            if (!fits) {
                broken("field " + field);
            }
            beside += isStatic ? 0 : 1;
        }
        if (beside > 40) {
            broken("fields beside the constants: " + beside);
        }
    }

    private static void methodNamesAreApart() {
        Set<String> names = new HashSet<>();
        for (Method method : MvbTree.class.getDeclaredMethods()) {
            if (!names.add(method.getName())) {
                broken("two methods are named " + method.getName());
            }
            if (method.getParameterCount() > 7) {
                broken("more than seven parameters: " + method.getName());
            }
        }
    }

    // By name, which no two of them share; the constructor is left out, it calls nothing.
    private static Map<String, String> bodies(String code) {
        Matcher method = Pattern.compile("\n    (?:public|private) (?:static )?[\\w\\[\\]]+ (\\w+)\\([^)]*\\) \\{"
                + "(.*?)\n    \\}", Pattern.DOTALL).matcher(code);
        Map<String, String> bodies = new TreeMap<>();
        while (method.find()) {
            bodies.put(method.group(1), method.group(2));
        }
        return bodies;
    }

    private static void methodsAreShort(String code) {
        Map<String, String> bodies = bodies(code);
        for (Method method : MvbTree.class.getDeclaredMethods()) {
            String body = bodies.get(method.getName());
            if (body == null) {
                broken("this test can't read " + method.getName());
            } else if (body.lines().count() > 60) {
                broken("more than sixty lines: " + method.getName());
            }
        }
    }

    // Methods that call none have depth 1; what is called in a circle never gets a depth.
    private static void callsAreShallow(String code) {
        Map<String, Set<String>> open = new TreeMap<>();
        Map<String, String> bodies = bodies(code);
        bodies.forEach((name, body) -> open.put(name, called(body, bodies.keySet())));
        for (int depth = 1; depth <= 6; depth++) {
            Set<String> ready = new TreeSet<>();
            open.forEach((name, called) -> {
                if (called.isEmpty()) {
                    ready.add(name);
                }
            });
            open.keySet().removeAll(ready);
            open.values().forEach(called -> called.removeAll(ready));
        }
        if (!open.isEmpty()) {
            broken("more than six calls deep, or in a circle: " + open.keySet());
        }
    }

    private static Set<String> called(String body, Set<String> names) {
        Set<String> called = new TreeSet<>();
        Matcher call = Pattern.compile("\\b(\\w+)\\s*\\(").matcher(body);
        while (call.find()) {
            if (names.contains(call.group(1))) {
                called.add(call.group(1));
            }
        }
        return called;
    }

    private static void noCallInArguments(String code) {
        Map<String, String> bodies = bodies(code);
        bodies.forEach((name, body) -> {
            Matcher call = Pattern.compile("\\b(\\w+)\\s*\\(").matcher(body);
            while (call.find()) {
                if (bodies.containsKey(call.group(1))
                        && !called(argumentsAt(body, call.end()), bodies.keySet()).isEmpty()) {
                    broken("a call stands in the arguments of " + call.group(1) + ", in " + name);
                }
            }
        });
    }

    private static String argumentsAt(String body, int start) {
        int open = 1;
        int end = start;
        while (open > 0 && end < body.length()) {
            char letter = body.charAt(end);
            open += letter == '(' ? 1 : letter == ')' ? -1 : 0;
            end++;
        }
        return body.substring(start, end);
    }

    // Beyond the 512th call the answers are free, but no call may throw there either.
    private static void noCallThrows() {
        int[] numbers = {Integer.MIN_VALUE, Integer.MIN_VALUE + 1, -1001, -1000, -41, -1, 0, 1, 27, 28, 29, 40, 41,
            999, 1000, 1001, 100000, Integer.MAX_VALUE - 1, Integer.MAX_VALUE};
        MvbTree x = new MvbTree();
        for (int round = 0; round < 3000; round++) {
            x.put(round * 7 % 61, round);
            x.erase(round * 5 % 61);
            if (round % 3 == 0) {
                x.forget(x.current() - round % 41);
            }
            int a = numbers[round % numbers.length];
            for (int b : numbers) {
                // One argument in two lies near the versions that are kept.
                int version = round % 2 == 0 ? b : x.current() - b;
                callAll(x, a, b, version);
            }
        }
    }

    private static void callAll(MvbTree x, int a, int b, int version) {
        try {
            x.has(a, version);
            x.get(a, version);
            x.count(a, b, version);
            x.sum(a, b, version);
            x.next(a, version);
            x.keyAt(a, version);
            x.differ(a, b, version, x.current());
            x.since(a);
            x.forget(b);
            x.put(a, b);
            x.erase(b);
        } catch (RuntimeException thrown) {
            broken("thrown with " + a + ", " + b + ", " + version + ": " + thrown);
        }
    }
}
