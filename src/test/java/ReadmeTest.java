import java.lang.reflect.Method;
import java.lang.reflect.Modifier;
import java.nio.file.Files;
import java.nio.file.Path;
import java.util.List;
import java.util.Set;
import java.util.TreeSet;
import java.util.regex.Matcher;
import java.util.regex.Pattern;

/** README.md: each line of its examples answers the number behind it, and no call of the face is missing. */
public final class ReadmeTest {
    private static final String MAKING = "TreePaths tree = new TreePaths();";
    private static final Pattern CALL = Pattern.compile("tree\\.(\\w+)\\(([^)]*)\\); *// (.*)");
    private static final Pattern ANSWER = Pattern.compile("(-?\\d+)\\b.*");
    /** As in the document. */
    private static final List<String> FACE = List.of("TreePaths()", "int open(int name)", "int text(int value)",
            "int close()", "int remove(int node)", "void start()", "int step(int axis, int test, int place)",
            "int having(int axis, int test, boolean wanted)", "int valued(int low, int high)",
            "void keep(int slot)", "int mix(int slot, int kind)", "int node(int index)", "int sum()");

    private static int wrong = 0;
    private static TreePaths tree = null;
    private static final Set<String> exampled = new TreeSet<>();

    public static void main(String[] args) throws Exception {
        String readme = Files.readString(Path.of("README.md"));
        checkFace(readme);
        tryExamples(readme.lines().toList());
        checkEachCallIsExampled();
        System.out.println(wrong == 0 ? "README.md is as due" : wrong + " faults in README.md");
        if (wrong != 0) {
            System.exit(1);
        }
    }

    private static void check(String what, boolean holds) {
        if (!holds) {
            wrong++;
            System.out.println("README.md: " + what);
        }
    }

    private static void tryExamples(List<String> lines) throws ReflectiveOperationException {
        boolean isExample = false;
        for (String line : lines) {
            if (line.startsWith("```")) {
                isExample = line.equals("```java");
            } else if (isExample && !line.isEmpty()) {
                tryExample(line);
            }
        }
    }

    private static void tryExample(String line) throws ReflectiveOperationException {
        if (line.startsWith(MAKING)) {
            tree = new TreePaths();
            return;
        }
        Matcher call = CALL.matcher(line);
        if (!call.matches()) {
            check("this is no call with its answer: " + line, false);
            return;
        }
        Object got = make(call.group(1), call.group(2).isEmpty() ? new String[0] : call.group(2).split(", "));
        Matcher answer = ANSWER.matcher(call.group(3));
        String want = answer.matches() ? answer.group(1) : "null";
        check("the answer is " + got + ": " + line, String.valueOf(got).equals(want));
    }

    private static Object make(String name, String[] arguments) throws ReflectiveOperationException {
        exampled.add(name);
        Class<?>[] types = new Class<?>[arguments.length];
        Object[] values = new Object[arguments.length];
        for (int i = 0; i < arguments.length; i++) {
            boolean isTruth = arguments[i].equals("true") || arguments[i].equals("false");
            types[i] = isTruth ? boolean.class : int.class;
            values[i] = isTruth ? (Object) Boolean.valueOf(arguments[i]) : Integer.valueOf(arguments[i]);
        }
        return TreePaths.class.getMethod(name, types).invoke(tree, values);
    }

    private static void checkFace(String readme) {
        for (String signature : FACE) {
            check("what " + signature + " does is missing", readme.contains("- `" + signature + "`: "));
        }
    }

    private static void checkEachCallIsExampled() {
        Set<String> names = new TreeSet<>();
        for (Method method : TreePaths.class.getDeclaredMethods()) {
            if (Modifier.isPublic(method.getModifiers())) {
                names.add(method.getName());
            }
        }
        check("the calls in the examples are " + exampled + ", due are " + names, exampled.equals(names));
    }
}
