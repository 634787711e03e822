import java.io.IOException;
import java.lang.reflect.InvocationTargetException;
import java.lang.reflect.Method;
import java.lang.reflect.Modifier;
import java.nio.file.Files;
import java.nio.file.Path;
import java.util.Arrays;
import java.util.regex.Matcher;
import java.util.regex.Pattern;

/**
 * What README.md shows: each line of its Java examples is made, and must answer what its comment begins with, a number
 * or an exception's name. It is run where .ci/run runs it, beside README.md.
 */
public final class ReadmeTest {
    private static final Path README = Path.of("README.md");
    private static final Pattern EXAMPLES = Pattern.compile("(?s)```java\n(.*?)```");
    private static final Pattern NEW = Pattern.compile("PuzzlePress press = new PuzzlePress\\(\\); .*");
    private static final Pattern CALL = Pattern.compile("press\\.(\\w+)\\(([^)]*)\\); +// (-?\\w+).*");

    private static final Tally TALLY = new Tally();

    private ReadmeTest() {
    }

    public static void main(String[] args) throws IOException {
        String readme = Files.readString(README);
        int examples = 0;
        for (Matcher example = EXAMPLES.matcher(readme); example.find(); examples++) {
            show(example.group(1));
        }
        TALLY.due("examples, one for each kind", examples, 3);
        for (Method method : PuzzlePress.class.getDeclaredMethods()) {
            if (Modifier.isPublic(method.getModifiers())) {
                String told = "| `" + method.getName() + "(";
                TALLY.dueText("README.md tells of " + method.getName(), String.valueOf(readme.contains(told)), "true");
            }
        }
        TALLY.end();
    }

    private static void show(String example) {
        PuzzlePress press = new PuzzlePress();
        for (String line : example.split("\n")) {
            Matcher call = CALL.matcher(line);
            if (NEW.matcher(line).matches()) {
                press = new PuzzlePress();
            } else if (call.matches()) {
                TALLY.dueText(line, answer(press, call.group(1), numbersIn(call.group(2))), call.group(3));
            } else {
                TALLY.dueText(line, "a line that can't be read", "a call with its answer");
            }
        }
    }

    private static Object[] numbersIn(String list) {
        String plain = list.replace("PuzzlePress.NONE", String.valueOf(PuzzlePress.NONE));
        return plain.isEmpty() ? new Object[0] : Arrays.stream(plain.split(", ")).map(Integer::valueOf).toArray();
    }

    private static String answer(PuzzlePress press, String name, Object[] arguments) {
        Class<?>[] types = new Class<?>[arguments.length];
        Arrays.fill(types, int.class);
        try {
            return String.valueOf(PuzzlePress.class.getMethod(name, types).invoke(press, arguments));
        } catch (InvocationTargetException e) {
            return e.getCause().getClass().getSimpleName();
        } catch (ReflectiveOperationException e) {
            return "there is no such call";
        }
    }
}
