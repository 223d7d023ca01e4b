import java.io.IOException;
import java.lang.reflect.InvocationTargetException;
import java.lang.reflect.Method;
import java.lang.reflect.Modifier;
import java.nio.file.Files;
import java.nio.file.Path;
import java.util.List;
import java.util.Set;
import java.util.TreeSet;
import java.util.regex.Matcher;
import java.util.regex.Pattern;

/**
 * Does the calls that README.md shows, and compares each answer with the one that is given behind it.
 * A line that can't be read is a fault too, so that no call of README.md is left out.
 */
public final class ReadmeCalls {
    private static final Pattern NEW = Pattern.compile("ClauseSearch x = new ClauseSearch\\((-?\\d+)\\);( *//.*)?");
    private static final Pattern CALL = Pattern.compile("x\\.(\\w+)\\(([^)]*)\\);(?: *// (-?\\w+)(?::? .*)?)?");

    private static int wrong = 0;

    private final Set<String> shown = new TreeSet<>();
    private ClauseSearch x = null;

    public static void main(String[] args) throws IOException, ReflectiveOperationException {
        List<String> lines = Files.readAllLines(Path.of("README.md"));
        ReadmeCalls readme = new ReadmeCalls();
        readme.doBlocks(lines);
        for (Method method : ClauseSearch.class.getDeclaredMethods()) {
            check("README.md shows no call of " + method.getName(),
                    !Modifier.isPublic(method.getModifiers()) || readme.shown.contains(method.getName()));
        }
        namesOfTests(String.join("\n", lines));
        System.out.println(wrong == 0 ? "all answers are as README.md gives them" : wrong + " faults");
        if (wrong != 0) {
            System.exit(1);
        }
    }

    private static void check(String fault, boolean good) {
        if (!good) {
            wrong++;
            System.out.println(fault);
        }
    }

    /** What stands between "```java" and "```" is done line by line; each such block makes its own object. */
    private void doBlocks(List<String> lines) throws ReflectiveOperationException {
        boolean inside = false;
        for (int at = 0; at < lines.size(); at++) {
            String line = lines.get(at).strip();
            if (line.startsWith("```")) {
                inside = line.equals("```java");
                x = null;
            } else if (inside && !line.isEmpty()) {
                doLine("README.md line " + (at + 1) + ": " + line, line);
            }
        }
    }

    private void doLine(String where, String line) throws ReflectiveOperationException {
        Matcher made = NEW.matcher(line);
        Matcher call = CALL.matcher(line);
        if (made.matches()) {
            x = new ClauseSearch(Integer.parseInt(made.group(1)));
        } else if (x == null || !call.matches()) {
            check(where + " can't be read", false);
        } else {
            String[] written = call.group(2).isEmpty() ? new String[0] : call.group(2).split(", *");
            compare(where, methodOf(call.group(1)), written, call.group(3));
        }
    }

    private void compare(String where, Method method, String[] written, String given)
            throws ReflectiveOperationException {
        if (method == null || method.getParameterCount() != written.length) {
            check(where + " is no call of the face", false);
            return;
        }
        shown.add(method.getName());
        String got = String.valueOf(answerOf(where, method, written));
        if (method.getReturnType() != void.class) {
            check(where + " answered " + got, got.equals(given));
        }
    }

    private Object answerOf(String where, Method method, String[] written) throws ReflectiveOperationException {
        Object[] arguments = new Object[written.length];
        for (int n = 0; n < written.length; n++) {
            arguments[n] = read(method.getParameterTypes()[n], written[n]);
        }
        try {
            return method.invoke(x, arguments);
        } catch (InvocationTargetException thrown) {
            check(where + " threw " + thrown.getCause(), false);
            return null;
        }
    }

    private static Object read(Class<?> type, String written) {
        if (type == boolean.class) {
            check(written + " is no truth", written.equals("true") || written.equals("false"));
            return written.equals("true");
        }
        if (type == long.class) {
            return Long.parseLong(written);
        }
        return Integer.parseInt(written);
    }

    private static Method methodOf(String name) {
        for (Method method : ClauseSearch.class.getDeclaredMethods()) {
            if (Modifier.isPublic(method.getModifiers()) && method.getName().equals(name)) {
                return method;
            }
        }
        return null;
    }

    /** README.md says how to run the tests, and what each of them is for. */
    private static void namesOfTests(String text) throws IOException {
        check("README.md does not name .ci/run", text.contains(".ci/run"));
        try (var files = Files.list(Path.of("src/test/java"))) {
            for (Path file : files.toList()) {
                String name = file.getFileName().toString().replace(".java", "");
                check("README.md does not name " + name, text.contains("`" + name + "`"));
            }
        }
    }
}
