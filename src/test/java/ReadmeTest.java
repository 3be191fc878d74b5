import java.io.IOException;
import java.lang.reflect.Method;
import java.nio.file.Files;
import java.nio.file.Path;
import java.util.ArrayList;
import java.util.Arrays;
import java.util.List;
import java.util.Set;
import java.util.TreeSet;
import java.util.regex.Matcher;
import java.util.regex.Pattern;

/**
 * The example of README.md: each of its calls answers what stands behind it. It is read from README.md itself, so that
 * the two cannot come apart.
 */
public final class ReadmeTest {
    private static final String START = "RuleAnomaly list = new RuleAnomaly();";
    // list.NAME(ARGUMENTS);  // ANSWER, or // ANSWER: why
    private static final Pattern CALL =
        Pattern.compile("list\\.(\\w+)\\(([-0-9, ]*)\\); +// (true|false|-?[0-9]+|RuleAnomaly\\.[A-Z]+)(: .*)?");

    public static void main(String[] args) throws IOException, ReflectiveOperationException {
        List<String> lines = example();
        Check.due("the example starts with a new object", true, !lines.isEmpty() && lines.get(0).equals(START));
        RuleAnomaly list = new RuleAnomaly();
        Set<String> called = new TreeSet<>();
        for (int k = 1; k < lines.size(); k++) {
            Matcher call = CALL.matcher(lines.get(k));
            boolean readable = call.matches();
            Check.due("a call and its answer: " + lines.get(k), true, readable);
            if (readable) {
                called.add(call.group(1));
                tryCall(list, call);
            }
        }
        Check.due("every method is in the example", true, called.equals(publicMethods()));
        Check.finish();
    }

    /** The lines of README.md's one java block, the empty ones left out. */
    private static List<String> example() throws IOException {
        List<String> found = new ArrayList<>();
        int blocks = 0;
        boolean inside = false;
        for (String line : Files.readAllLines(Path.of("README.md"))) {
            if (line.equals("```java")) {
                inside = true;
                blocks++;
            } else if (line.equals("```")) {
                inside = false;
            } else if (inside && !line.isBlank()) {
                found.add(line);
            }
        }
        Check.due("java blocks in README.md", 1, blocks);
        return found;
    }

    private static void tryCall(RuleAnomaly list, Matcher call) throws ReflectiveOperationException {
        Object[] numbers = numbers(call.group(2));
        Class<?>[] types = new Class<?>[numbers.length];
        Arrays.fill(types, int.class);
        Object answer = RuleAnomaly.class.getMethod(call.group(1), types).invoke(list, numbers);
        String shown = call.group(1) + "(" + call.group(2) + ")";
        String due = call.group(3);
        if (answer instanceof Boolean) {
            Check.due(shown + " has a truth value behind it", true, due.equals("true") || due.equals("false"));
            Check.due(shown, due.equals("true"), (Boolean) answer);
        } else {
            Check.due(shown, number(due), (Integer) answer);
        }
    }

    private static Object[] numbers(String text) {
        return text.isBlank() ? new Object[0] : Pattern.compile(", ").splitAsStream(text).map(Integer::valueOf).toArray();
    }

    /** A number, or a constant of the class by its name. */
    private static int number(String text) throws ReflectiveOperationException {
        int dot = text.indexOf('.');
        return dot < 0 ? Integer.parseInt(text) : RuleAnomaly.class.getField(text.substring(dot + 1)).getInt(null);
    }

    private static Set<String> publicMethods() {
        Set<String> names = new TreeSet<>();
        for (Method method : RuleAnomaly.class.getMethods()) {
            if (method.getDeclaringClass() == RuleAnomaly.class) {
                names.add(method.getName());
            }
        }
        return names;
    }
}
