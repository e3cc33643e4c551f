import java.lang.reflect.Method;
import java.lang.reflect.Modifier;
import java.nio.file.DirectoryStream;
import java.nio.file.Files;
import java.nio.file.Path;
import java.util.ArrayList;
import java.util.HashMap;
import java.util.List;
import java.util.Map;
import java.util.Set;
import java.util.TreeSet;
import java.util.regex.Matcher;
import java.util.regex.Pattern;

/** What README.md says is so: its calls, made in their order, and its table of tests. */
public final class ReadmeTest {
    private static final Checks C = new Checks();
    private static final Path README = Path.of("README.md");
    private static final Path TESTS = Path.of("src/test/java");
    private static final Pattern CALL =
            Pattern.compile("x\\.(\\w+)\\(([^)]*)\\);\\s*// (-?\\d+)(?![\\w.])(.*)");
    private static final Pattern TYPED = Pattern.compile("^: \"([^\"]*)\"");
    private static final Pattern ROW = Pattern.compile("\\| (\\w+Test) \\|.*");

    private final Map<String, Method> face = new HashMap<>();
    private final Set<String> shown = new TreeSet<>();
    private EachBrings x = null;

    public static void main(String[] args) throws Exception {
        List<String> lines = Files.readAllLines(README);
        new ReadmeTest().makeCalls(javaLines(lines));
        tableOfTests(lines);
        C.end();
    }

    private ReadmeTest() {
        for (Method m : EachBrings.class.getDeclaredMethods()) {
            if (Modifier.isPublic(m.getModifiers())) {
                face.put(m.getName(), m);
            }
        }
    }

    private static List<String> javaLines(List<String> lines) {
        List<String> code = new ArrayList<>();
        boolean inside = false;
        for (String line : lines) {
            if (line.startsWith("```")) {
                inside = line.equals("```java");
            } else if (inside && !line.isBlank()) {
                code.add(line);
            }
        }
        return code;
    }

    private void makeCalls(List<String> code) throws Exception {
        for (String line : code) {
            Matcher call = CALL.matcher(line);
            if (line.equals("EachBrings x = new EachBrings();")) {
                x = new EachBrings();
            } else if (call.matches() && face.containsKey(call.group(1))) {
                makeCall(line, call);
            } else {
                C.holds("a line of README.md is a call with its answer: " + line, false);
            }
        }
        C.holds("README.md shows each call of the face: " + shown, shown.equals(new TreeSet<>(face.keySet())));
    }

    private void makeCall(String line, Matcher call) throws Exception {
        Method method = face.get(call.group(1));
        Object[] arguments = arguments(method, call.group(2));
        shown.add(method.getName());
        Number got = (Number) method.invoke(x, arguments);
        C.due("README.md: " + line, got.longValue(), Long.parseLong(call.group(3)));
        if (method.getName().equals("type")) {
            Matcher typed = TYPED.matcher(call.group(4));
            C.holds("the bytes are those of the text: " + line, typed.find()
                    && typed.group(1).length() == (Integer) arguments[1]
                    && Checks.asNumber(typed.group(1)) == (Long) arguments[0]);
        }
    }

    private static Object[] arguments(Method method, String written) {
        String[] parts = written.isEmpty() ? new String[0] : written.split(", ");
        Object[] arguments = new Object[parts.length];
        for (int i = 0; i < parts.length; i++) {
            boolean isLong = method.getParameterTypes()[i] == long.class;
            arguments[i] = isLong ? (Object) Long.decode(parts[i].replace("L", "")) : (Object) Integer.decode(parts[i]);
        }
        return arguments;
    }

    private static void tableOfTests(List<String> lines) throws Exception {
        Set<String> named = new TreeSet<>();
        for (String line : lines) {
            Matcher row = ROW.matcher(line);
            if (row.matches()) {
                named.add(row.group(1));
            }
        }
        Set<String> there = new TreeSet<>();
        try (DirectoryStream<Path> files = Files.newDirectoryStream(TESTS, "*Test.java")) {
            for (Path file : files) {
                there.add(file.getFileName().toString().replace(".java", ""));
            }
        }
        C.holds("README.md names the tests there are: " + named + ", " + there, named.equals(there));
    }
}
