import java.io.IOException;
import java.lang.reflect.Method;
import java.lang.reflect.Modifier;
import java.nio.file.Files;
import java.nio.file.Path;
import java.util.HashMap;
import java.util.Map;
import java.util.regex.Matcher;
import java.util.regex.Pattern;

/** README.md says how to use the class: its example answers what it says, and no call of the face is left out. */
public final class ReadmeTest extends TestKit {
    private static final Pattern EXAMPLE = Pattern.compile("(?s)```java\n(.*?)```");
    private static final Pattern CALL =
            Pattern.compile("(?:int (\\w+) = )?x\\.(\\w+)\\(([^)]*)\\);\\s+// (-?\\d+): .+");
    private static final String FIRST_LINE = "ClosureFrames x = new ClosureFrames();";

    private static final Map<String, Integer> NAMED = new HashMap<>();

    public static void main(String[] args) throws IOException, ReflectiveOperationException {
        String readme = Files.readString(Path.of("README.md"));
        Matcher example = EXAMPLE.matcher(readme);
        if (example.find()) {
            runExample(example.group(1).split("\n"));
        } else {
            say("README.md has no example");
        }
        for (Method each : ClosureFrames.class.getDeclaredMethods()) {
            if (Modifier.isPublic(each.getModifiers()) && !readme.contains("`" + each.getName() + "(")) {
                say("README.md does not name " + each.getName());
            }
        }
        end();
    }

    private static void runExample(String[] lines) throws ReflectiveOperationException {
        ClosureFrames x = new ClosureFrames();
        due("the example's first line", lines[0], FIRST_LINE);
        for (int i = 1; i < lines.length; i++) {
            Matcher call = CALL.matcher(lines[i]);
            if (call.matches()) {
                int got = answer(x, call.group(2), call.group(3));
                due(lines[i], got, Integer.parseInt(call.group(4)));
                NAMED.put(call.group(1), got);
            } else {
                say("no call with its answer: " + lines[i]);
            }
        }
    }

    private static int answer(ClosureFrames x, String name, String numbers) throws ReflectiveOperationException {
        String[] words = numbers.isEmpty() ? new String[0] : numbers.split(", ");
        Object[] values = new Object[words.length];
        Class<?>[] types = new Class<?>[words.length];
        for (int i = 0; i < words.length; i++) {
            boolean truth = words[i].equals("true") || words[i].equals("false");
            types[i] = truth ? boolean.class : int.class;
            values[i] = truth ? (Object) Boolean.valueOf(words[i]) : (Object) number(words[i]);
        }
        return (Integer) ClosureFrames.class.getMethod(name, types).invoke(x, values);
    }

    private static Integer number(String word) {
        Integer named = NAMED.get(word);
        return named != null ? named : Integer.valueOf(word);
    }
}
