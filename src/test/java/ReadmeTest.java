import java.io.IOException;
import java.lang.reflect.InvocationTargetException;
import java.lang.reflect.Method;
import java.lang.reflect.Modifier;
import java.nio.file.Files;
import java.nio.file.Path;
import java.util.List;
import java.util.regex.Matcher;
import java.util.regex.Pattern;

/** The examples of README.md: the last call of a line answers what stands behind its // sign. */
public final class ReadmeTest {
    private static final Pattern CALL = Pattern.compile("x\\.(\\w+)\\(([^)]*)\\);");
    private static final Pattern DUE = Pattern.compile("// (true|false|-?\\d+)\\b.*");

    private static int wrong = 0;
    private static int asked = 0;

    private ReadmeTest() {
    }

    public static void main(String[] args) throws IOException, IllegalAccessException {
        List<String> lines = Files.readAllLines(Path.of("README.md"));
        runExamples(lines);
        lookForNames(String.join("\n", lines));
        if (asked == 0) {
            complain("no example was found");
        }
        System.out.println("ReadmeTest: " + asked + " answers of the examples looked at, " + wrong + " wrong");
        if (wrong > 0) {
            System.exit(1);
        }
    }

    private static void runExamples(List<String> lines) throws IllegalAccessException {
        RackBench bench = null;
        for (String line : lines) {
            if (line.equals("RackBench x = new RackBench();")) {
                bench = new RackBench();
            } else if (line.startsWith("x.")) {
                runLine(bench, line);
            }
        }
    }

    private static void runLine(RackBench bench, String line) throws IllegalAccessException {
        Matcher calls = CALL.matcher(line);
        String answer = null;
        int end = 0;
        while (calls.find()) {
            answer = answerOf(bench, calls.group(1), calls.group(2));
            end = calls.end();
        }
        String rest = line.substring(end).trim();
        Matcher due = DUE.matcher(rest);
        if (due.matches()) {
            asked++;
            if (!due.group(1).equals(answer)) {
                complain(line + " answered " + answer);
            }
        } else if (answer == null || !rest.isEmpty()) {
            complain(line + " cannot be read");
        }
    }

    private static String answerOf(RackBench bench, String name, String told) throws IllegalAccessException {
        String[] words = told.isEmpty() ? new String[0] : told.split(", ");
        Object[] numbers = new Object[words.length];
        for (int i = 0; i < words.length; i++) {
            numbers[i] = Integer.valueOf(words[i]);
        }
        for (Method method : RackBench.class.getDeclaredMethods()) {
            if (Modifier.isPublic(method.getModifiers()) && method.getName().equals(name)) {
                try {
                    return String.valueOf(method.invoke(bench, numbers));
                } catch (InvocationTargetException thrown) {
                    return "throws." + thrown.getCause().getClass().getSimpleName();
                }
            }
        }
        return "no such call";
    }

    private static void lookForNames(String text) {
        for (Method method : RackBench.class.getDeclaredMethods()) {
            if (Modifier.isPublic(method.getModifiers()) && !text.contains("`" + method.getName() + "`")) {
                complain("README.md does not name the call " + method.getName());
            }
        }
    }

    private static void complain(String text) {
        wrong++;
        System.out.println(text);
    }
}
