import java.lang.reflect.Constructor;
import java.lang.reflect.Field;
import java.lang.reflect.Method;
import java.lang.reflect.Modifier;
import java.nio.file.Files;
import java.nio.file.Path;
import java.util.ArrayList;
import java.util.Arrays;
import java.util.List;
import java.util.Set;
import java.util.TreeSet;

/** The document's face, and those rules of LANGUAGE.md that a program can look at. */
public final class LanguageTest {
    private static final Checks C = new Checks();
    private static final Path SOURCE = Path.of("src/main/java/EachBrings.java");
    private static final String[] FACE = {
        "int type(long, int)", "int clear()", "int village()", "int house(int, int)", "int told(int)",
        "int brings(int, int)", "int evening()", "int table(int, int)", "int eat(int)", "int ate(int, int)",
        "int hungry(int)", "int year()", "int lot(int)", "long odds(int, int, int)", "long all(int)",
        "int call(int, int, int)", "int shared()", "int swings(int)", "int ill(int, int)", "int suspects()",
        "int rests(int, int, int)", "int rate(int, int)", "int keep(int)", "int back(int)", "int count(int)",
        "long trace()"};
    private static final String[] RULED_OUT = {
        "import", "package", "throw", "throws", "try", "catch", "finally", "synchronized", "assert", "volatile",
        "transient", "native", "new Thread", "protected", "Object", "Exception", "hashCode", "toString"};

    public static void main(String[] args) throws Exception {
        theFace();
        nothingElseIsSeen();
        theClassesInside();
        theWords();
        theMethodsAreShort();
        C.end();
    }

    private static void theFace() {
        Set<String> want = new TreeSet<>(Arrays.asList(FACE));
        Set<String> got = new TreeSet<>();
        for (Method m : EachBrings.class.getDeclaredMethods()) {
            if (Modifier.isPublic(m.getModifiers())) {
                got.add(told(m));
                C.holds(m + " belongs to an object", !Modifier.isStatic(m.getModifiers()));
            }
        }
        C.holds("the public methods are the document's: " + got, got.equals(want));
        C.holds("the class is public and final", (EachBrings.class.getModifiers()
                & (Modifier.PUBLIC | Modifier.FINAL)) == (Modifier.PUBLIC | Modifier.FINAL));
        C.due("BAD", EachBrings.BAD, -1);
        C.due("STATE", EachBrings.STATE, -2);
        C.due("FULL", EachBrings.FULL, -3);
        C.due("NONE", EachBrings.NONE, -9);
        C.due("NO", EachBrings.NO, -1000000);
    }

    private static String told(Method m) {
        List<String> types = new ArrayList<>();
        for (Class<?> type : m.getParameterTypes()) {
            types.add(type.getName());
        }
        return m.getReturnType().getName() + " " + m.getName() + "(" + String.join(", ", types) + ")";
    }

    private static void nothingElseIsSeen() {
        Set<String> constants = Set.of("BAD", "STATE", "FULL", "NONE", "NO");
        for (Field f : EachBrings.class.getDeclaredFields()) {
            boolean isPublic = Modifier.isPublic(f.getModifiers());
            C.holds("seen only if it is the document's: " + f,
                    isPublic == constants.contains(f.getName()) && (isPublic || Modifier.isPrivate(f.getModifiers())));
        }
        Set<String> names = new TreeSet<>();
        for (Method m : EachBrings.class.getDeclaredMethods()) {
            if (Modifier.isPublic(m.getModifiers())) {
                names.add(m.getName());
            } else {
                C.holds("private: " + m, m.isSynthetic() || Modifier.isPrivate(m.getModifiers()));
            }
        }
        for (Class<?> type : classes()) {
            for (Method m : type.getDeclaredMethods()) {
                C.holds("no private method bears a public one's name: " + m,
                        Modifier.isPublic(m.getModifiers()) || !names.contains(m.getName()));
                C.holds("seven parameters at most: " + m, m.getParameterCount() <= 7);
            }
        }
        C.due("constructors", EachBrings.class.getConstructors().length, 1);
        for (Constructor<?> c : EachBrings.class.getDeclaredConstructors()) {
            C.due("parameters of " + c, c.getParameterCount(), 0);
        }
    }

    private static List<Class<?>> classes() {
        List<Class<?>> classes = new ArrayList<>(List.of(EachBrings.class.getDeclaredClasses()));
        classes.add(EachBrings.class);
        return classes;
    }

    private static void theClassesInside() {
        C.holds("twelve classes at most", classes().size() <= 12);
        for (Class<?> type : EachBrings.class.getDeclaredClasses()) {
            C.holds("static and not public: " + type, Modifier.isStatic(type.getModifiers())
                    && !Modifier.isPublic(type.getModifiers()) && !Modifier.isProtected(type.getModifiers()));
        }
        for (Class<?> type : classes()) {
            int fields = 0;
            for (Field f : type.getDeclaredFields()) {
                boolean isStatic = Modifier.isStatic(f.getModifiers());
                C.holds("what is static is final: " + f, !isStatic || Modifier.isFinal(f.getModifiers()));
                fields += isStatic ? 0 : 1;
            }
            C.holds("twenty fields at most: " + type, fields <= 20);
        }
    }

    private static void theWords() throws Exception {
        String code = Files.readString(SOURCE).replaceAll("(?s)/\\*.*?\\*/", " ").replaceAll("//[^\n]*", " ");
        for (String word : RULED_OUT) {
            C.holds("not in the class: " + word, !code.matches("(?s).*\\b" + word + "\\b.*"));
        }
        C.holds("no lambda, no method reference", !code.contains("->") && !code.contains("::"));
        C.holds("none whose name ends in Exact", !code.contains("Exact"));
        C.holds("no static block", !code.matches("(?s).*\\bstatic\\s*\\{.*"));
        for (String call : new String[] {"System", "Math", "Integer"}) {
            Set<String> used = new TreeSet<>();
            java.util.regex.Matcher m = java.util.regex.Pattern.compile("\\b" + call + "\\.(\\w+)").matcher(code);
            while (m.find()) {
                used.add(m.group(1));
            }
            C.holds("of the library only what is listed: " + call + used,
                    Set.of("arraycopy", "max", "min", "abs", "bitCount").containsAll(used));
        }
    }

    private static void theMethodsAreShort() throws Exception {
        int from = 0;
        List<String> lines = Files.readAllLines(SOURCE);
        for (int i = 0; i < lines.size(); i++) {
            if (lines.get(i).matches(" {4}( {4})?(public|private) .*\\(.*\\{")) {
                from = i;
            }
            if (lines.get(i).matches(" {4}( {4})?\\}")) {
                C.holds("sixty lines at most: " + lines.get(from).trim(),
                        i - from <= 60 || lines.get(from).contains(" class "));
                from = i;
            }
            C.holds("signs up to 126 in line " + (i + 1), lines.get(i).chars().allMatch(c -> c >= 32 && c < 127));
        }
    }
}
