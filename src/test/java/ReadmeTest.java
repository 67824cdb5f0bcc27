import java.io.File;
import java.io.IOException;
import java.lang.reflect.Method;
import java.nio.file.Files;
import java.nio.file.Path;
import java.util.ArrayList;
import java.util.List;
import java.util.Set;
import java.util.TreeSet;
import java.util.regex.Matcher;
import java.util.regex.Pattern;

/** README.md tells the truth: its example answers as written, and it leaves out no call and no test. */
public final class ReadmeTest {
    private static final Pattern CALL = Pattern.compile("project\\.(\\w+)\\(([^)]*)\\); +// (-?\\d+): .+");
    private static final Pattern ROW = Pattern.compile("\\| `(\\w+)\\(([^)]*)\\)` \\|.+\\|.+\\|");
    private static int wrong = 0;

    private static void check(String what, boolean holds) {
        if (!holds) {
            wrong++;
            System.out.println("does not hold: " + what);
        }
    }

    private static List<String> argumentsOf(String list) {
        return list.isBlank() ? List.of() : List.of(list.split(", *"));
    }

    private static Method methodNamed(String name) {
        for (Method method : CrashPlanner.class.getDeclaredMethods()) {
            if (method.getName().equals(name) && !method.isSynthetic()) {
                return method;
            }
        }
        return null;
    }

    private static Set<String> publicNames() {
        Set<String> names = new TreeSet<>();
        for (Method method : CrashPlanner.class.getMethods()) {
            if (method.getDeclaringClass() == CrashPlanner.class) {
                names.add(method.getName());
            }
        }
        return names;
    }

    private static int answer(CrashPlanner project, Matcher call) throws ReflectiveOperationException {
        List<Object> values = new ArrayList<>();
        for (String word : argumentsOf(call.group(2))) {
            values.add(Integer.parseInt(word));
        }
        return (int) methodNamed(call.group(1)).invoke(project, values.toArray());
    }

    /** The lines of the first Java block, the one that shows how to use the class. */
    private static List<String> exampleOf(List<String> readme) {
        int begin = readme.indexOf("```java") + 1;
        int length = readme.subList(begin, readme.size()).indexOf("```");
        return readme.subList(begin, begin + length);
    }

    private static void checkExample(List<String> readme) throws ReflectiveOperationException {
        CrashPlanner project = new CrashPlanner();
        Set<String> shown = new TreeSet<>();
        List<String> example = exampleOf(readme);
        check("the example begins with a new object",
            example.get(0).equals("CrashPlanner project = new CrashPlanner();"));
        for (String line : example.subList(1, example.size())) {
            Matcher call = CALL.matcher(line);
            check("the example's line is a call with its answer: " + line, call.matches());
            if (call.matches()) {
                int got = answer(project, call);
                check(line + " (answered " + got + ")", got == Integer.parseInt(call.group(3)));
                shown.add(call.group(1));
            }
        }
        check("the example shows every call, not only " + shown, shown.equals(publicNames()));
    }

    private static void checkTable(List<String> readme) {
        Set<String> told = new TreeSet<>();
        for (String line : readme) {
            Matcher row = ROW.matcher(line);
            if (row.matches()) {
                Method method = methodNamed(row.group(1));
                check("there is such a call: " + line, method != null
                    && method.getParameterCount() == argumentsOf(row.group(2)).size());
                told.add(row.group(1));
            }
        }
        check("the table tells of every call, not only " + told, told.equals(publicNames()));
    }

    private static void checkTests(String text) {
        check("it names .ci/run", text.contains("`.ci/run`"));
        for (String file : new File("src/test/java").list()) {
            String name = file.replace(".java", "");
            check("it tells of " + name, text.contains("- `" + name + "`: "));
        }
    }

    public static void main(String[] args) throws IOException, ReflectiveOperationException {
        List<String> readme = Files.readAllLines(Path.of("README.md"));
        checkExample(readme);
        checkTable(readme);
        checkTests(String.join("\n", readme));
        System.out.println(wrong == 0 ? "README.md is true" : wrong + " faults in README.md");
        if (wrong != 0) {
            System.exit(1);
        }
    }
}
