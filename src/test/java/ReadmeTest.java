import java.io.IOException;
import java.lang.reflect.InvocationTargetException;
import java.lang.reflect.Method;
import java.lang.reflect.Modifier;
import java.nio.file.Files;
import java.nio.file.Path;
import java.util.List;
import java.util.regex.Matcher;
import java.util.regex.Pattern;

/**
 * The examples of README.md are true: in its Java blocks each call answers what stands behind it, a
 * value or the name of an exception. And its lists name each public method, with its parameters.
 */
public final class ReadmeTest {
    private static final String NEW_OBJECT = "DrawBureau bureau = new DrawBureau();";
    private static final Pattern CALL = Pattern.compile("bureau\\.(\\w+)\\(([^)]*)\\);\\s+// ([^:]*)(:.*)?");
    private static int wrong = 0;
    private static int calls = 0;

    private static void tell(String text) {
        wrong++;
        System.out.println(text);
    }

    private static Method methodOf(String name) {
        for (Method method : DrawBureau.class.getDeclaredMethods()) {
            if (method.getName().equals(name) && Modifier.isPublic(method.getModifiers())) {
                return method;
            }
        }
        return null;
    }

    private static Object[] valuesOf(String written) {
        if (written.isEmpty()) {
            return new Object[0];
        }
        String[] parts = written.split(", ");
        Object[] values = new Object[parts.length];
        for (int i = 0; i < parts.length; i++) {
            boolean isTruth = parts[i].equals("true") || parts[i].equals("false");
            values[i] = isTruth ? (Object) Boolean.valueOf(parts[i]) : (Object) Integer.valueOf(parts[i]);
        }
        return values;
    }

    /** The answer as it is written in the README; of a method without an answer an empty text. */
    private static String answerOf(DrawBureau bureau, Method method, Object[] values) throws IllegalAccessException {
        try {
            Object answer = method.invoke(bureau, values);
            return answer == null ? "" : answer.toString();
        } catch (InvocationTargetException e) {
            return e.getCause().getClass().getSimpleName();
        }
    }

    private static void checkCall(DrawBureau bureau, String line) throws IllegalAccessException {
        Matcher call = CALL.matcher(line);
        Method method = call.matches() ? methodOf(call.group(1)) : null;
        if (bureau == null || method == null) {
            tell("no call of the class, or no answer behind it: " + line);
            return;
        }
        calls++;
        String got = answerOf(bureau, method, valuesOf(call.group(2)));
        boolean throwsNothing = got.isEmpty() && !call.group(3).endsWith("Exception");
        if (!throwsNothing && !got.equals(call.group(3))) {
            tell(line + " answered " + got);
        }
    }

    private static void checkExamples(List<String> lines) throws IllegalAccessException {
        boolean inside = false;
        DrawBureau bureau = null;
        for (String line : lines) {
            if (line.startsWith("```")) {
                inside = line.equals("```java");
                bureau = null;
            } else if (inside && line.equals(NEW_OBJECT)) {
                bureau = new DrawBureau();
            } else if (inside) {
                checkCall(bureau, line);
            }
        }
        if (calls == 0) {
            tell("README.md has no example");
        }
    }

    private static void checkLists(List<String> lines) {
        for (Method method : DrawBureau.class.getDeclaredMethods()) {
            if (!Modifier.isPublic(method.getModifiers())) {
                continue;
            }
            int named = 0;
            for (String line : lines) {
                Matcher row = Pattern.compile("\\| `" + method.getName() + "\\(([^)]*)\\)` \\|.*").matcher(line);
                if (row.matches() && countOf(row.group(1)) == method.getParameterCount()) {
                    named++;
                }
            }
            if (named != 1) {
                tell("README.md lists " + method.getName() + " " + named + " times");
            }
        }
    }

    private static int countOf(String parameters) {
        return parameters.isEmpty() ? 0 : parameters.split(", ").length;
    }

    public static void main(String[] args) throws IOException, IllegalAccessException {
        List<String> lines = Files.readAllLines(Path.of("README.md"));
        checkExamples(lines);
        checkLists(lines);
        System.out.println(wrong == 0 ? calls + " calls of README.md answer as written" : wrong + " are not as due");
        if (wrong != 0) {
            System.exit(1);
        }
    }
}
