import java.lang.reflect.Method;
import java.lang.reflect.Modifier;
import java.nio.file.Files;
import java.nio.file.Path;
import java.util.ArrayList;
import java.util.List;
import java.util.Set;
import java.util.TreeSet;
import java.util.regex.Matcher;
import java.util.regex.Pattern;

/** Makes the calls of the example in README.md; each comment there begins with the answer that is due. */
public final class ReadmeTest {
    private static final Path README = Path.of("README.md");
    private static final Pattern CALL =
            Pattern.compile("desk\\.(\\w+)\\(([^)]*)\\);(?:\\s*// (-?\\d+|true|false)\\b.*)?");

    private static int wrong = 0;

    public static void main(String[] args) throws Exception {
        String text = Files.readString(README);
        Set<String> called = runExample(exampleOf(text));
        for (Method method : QuantifierDesk.class.getDeclaredMethods()) {
            if (Modifier.isPublic(method.getModifiers())) {
                checkTold(method, text, called);
            }
        }
        System.out.println(wrong == 0 ? "README.md is right" : wrong + " faults in README.md");
        if (wrong != 0) {
            System.exit(1);
        }
    }

    private static void fault(String what) {
        wrong++;
        System.out.println(what);
    }

    private static List<String> exampleOf(String text) {
        Matcher block = Pattern.compile("(?s)```java\n(.*?)```").matcher(text);
        List<String> lines = new ArrayList<>();
        if (block.find()) {
            lines.addAll(block.group(1).lines().toList());
        }
        if (lines.isEmpty() || !lines.remove(0).equals("QuantifierDesk desk = new QuantifierDesk();")) {
            fault("README.md has no example that begins with a new desk");
        }
        return lines;
    }

    private static Set<String> runExample(List<String> lines) throws Exception {
        QuantifierDesk desk = new QuantifierDesk();
        Set<String> called = new TreeSet<>();
        for (String line : lines) {
            Matcher call = CALL.matcher(line);
            if (!call.matches()) {
                fault("not a call with its answer: " + line);
                continue;
            }
            called.add(call.group(1));
            Object answer = answerOf(desk, call.group(1), call.group(2));
            // Only clear has no answer, and only a call without one may stand without a comment.
            String due = call.group(3) == null ? "null" : call.group(3);
            if (!due.equals(String.valueOf(answer))) {
                fault(line + " answered " + answer);
            }
        }
        return called;
    }

    private static Object answerOf(QuantifierDesk desk, String name, String argument) throws Exception {
        if (argument.isEmpty()) {
            return QuantifierDesk.class.getMethod(name).invoke(desk);
        }
        return QuantifierDesk.class.getMethod(name, int.class).invoke(desk, sum(argument));
    }

    private static int sum(String argument) {
        int found = 0;
        for (String part : argument.split("\\+")) {
            found += Integer.parseInt(part.trim());
        }
        return found;
    }

    private static void checkTold(Method method, String text, Set<String> called) {
        String row = "(?m)^\\| `" + method.getName() + "\\(" + (method.getParameterCount() == 0 ? "" : "\\w+") + "\\)` \\|";
        if (!Pattern.compile(row).matcher(text).find()) {
            fault("README.md does not say what " + method.getName() + " answers");
        }
        if (!called.contains(method.getName())) {
            fault("the example does not call " + method.getName());
        }
    }
}
