import java.io.IOException;
import java.lang.reflect.Method;
import java.lang.reflect.Modifier;
import java.nio.file.Files;
import java.nio.file.Path;
import java.util.HashMap;
import java.util.Map;
import java.util.TreeSet;
import java.util.regex.Matcher;
import java.util.regex.Pattern;

/** Makes the calls that README.md shows, in their order on one object: each must answer as README.md says behind it. */
public final class ReadmeTest {

    private static final String MADE = "RootForms forms = new RootForms();";
    /* A name for the answer, the method, what it is given, the answer told, and words on it that are not looked at. */
    private static final Pattern CALL =
        Pattern.compile("(?:int (\\w+) = )?forms\\.(\\w+)\\(([^()]*)\\);\\s+// (-?\\w+)(?:: .+)?");
    private static final int CALLS_PROMISED = 512;

    private static int wrong = 0;

    private final Map<String, Method> methods = new HashMap<>();
    private final Map<String, Object> names = new HashMap<>();
    private final TreeSet<String> notShown = new TreeSet<>();
    private RootForms forms;
    private int calls;

    private ReadmeTest() {
        for (Method method : RootForms.class.getDeclaredMethods()) {
            if (Modifier.isPublic(method.getModifiers())) {
                methods.put(method.getName(), method);
                notShown.add(method.getName());
            }
        }
    }

    public static void main(String[] args) throws Exception {
        ReadmeTest test = new ReadmeTest();
        test.read(Path.of("README.md"));
        fault(!test.notShown.isEmpty(), "README.md does not show " + test.notShown);
        fault(test.calls > CALLS_PROMISED, "README.md shows more calls than an object is promised for");
        System.out.println(wrong == 0 ? test.calls + " calls answer as README.md says" : wrong + " faults");
        if (wrong != 0) {
            System.exit(1);
        }
    }

    private static void fault(boolean is, String told) {
        if (is) {
            wrong++;
            System.out.println(told);
        }
    }

    private void read(Path file) throws IOException, ReflectiveOperationException {
        boolean shown = false;
        for (String line : Files.readAllLines(file)) {
            if (line.startsWith("```")) {
                shown = line.equals("```java");
            } else if (shown && line.equals(MADE)) {
                forms = new RootForms();
            } else if (shown) {
                make(line);
            }
        }
    }

    private void make(String line) throws ReflectiveOperationException {
        Matcher call = CALL.matcher(line);
        Method method = call.matches() ? methods.get(call.group(2)) : null;
        if (method == null || forms == null) {
            fault(true, "README.md shows what is no call with an answer: " + line);
            return;
        }
        Object answer = method.invoke(forms, given(call.group(3)));
        calls++;
        notShown.remove(method.getName());
        if (call.group(1) != null) {
            names.put(call.group(1), answer);
        }
        fault(!answer.toString().equals(call.group(4)), "README.md: " + line + " answered " + answer);
    }

    private Object[] given(String listed) {
        String[] parts = listed.isEmpty() ? new String[0] : listed.split(", ");
        Object[] given = new Object[parts.length];
        for (int i = 0; i < parts.length; i++) {
            given[i] = worth(parts[i]);
        }
        return given;
    }

    private Object worth(String part) {
        if (part.equals("true") || part.equals("false")) {
            return Boolean.valueOf(part);
        }
        return names.containsKey(part) ? names.get(part) : Integer.valueOf(part);
    }
}
