import java.io.IOException;
import java.lang.reflect.Field;
import java.lang.reflect.Method;
import java.lang.reflect.Modifier;
import java.nio.file.Files;
import java.nio.file.Path;
import java.util.Arrays;
import java.util.regex.Matcher;
import java.util.regex.Pattern;

/** The answers in README.md are those of the class, and it names every call and every refusal. */
public final class ReadmeTest {
    private static final Pattern MADE = Pattern.compile("CoreEnumerator x = new CoreEnumerator\\((.*)\\); .*");
    private static final Pattern CALL = Pattern.compile("x\\.(\\w+)\\((.*)\\); +// ([^:]+): .*");

    public static void main(String[] args) throws IOException, ReflectiveOperationException {
        String readme = Files.readString(Path.of("README.md"));
        exampleIsTrue(readme);
        everyCallIsNamed(readme);
        everyRefusalIsNamed(readme);
        Checks.finish();
    }

    private static void exampleIsTrue(String readme) throws ReflectiveOperationException {
        String example = readme.split("```java\n")[1].split("```")[0];
        String[] lines = example.split("\n");
        Matcher made = MADE.matcher(lines[0]);
        Checks.dueEqual("'" + lines[0] + "' makes an object", made.matches(), true);
        Object[] sizes = numbers(made.group(1));
        CoreEnumerator x = new CoreEnumerator((int) sizes[0], (int) sizes[1]);
        for (int i = 1; i < lines.length; i++) {
            Matcher call = CALL.matcher(lines[i]);
            Checks.dueEqual("'" + lines[i] + "' is a call with its answer", call.matches(), true);
            Object got = method(call.group(1)).invoke(x, numbers(call.group(2)));
            Checks.due(lines[i], (int) got, number(call.group(3)));
        }
    }

    private static void everyCallIsNamed(String readme) {
        for (Method method : CoreEnumerator.class.getDeclaredMethods()) {
            if (Modifier.isPublic(method.getModifiers())) {
                dueRow(readme, "| `" + method.getName() + "(");
            }
        }
    }

    private static void everyRefusalIsNamed(String readme) throws IllegalAccessException {
        for (Field field : CoreEnumerator.class.getDeclaredFields()) {
            if (Modifier.isPublic(field.getModifiers()) && field.getInt(null) < 0) {
                dueRow(readme, "| `" + field.getName() + "` |");
            }
        }
    }

    private static void dueRow(String readme, String start) {
        Checks.dueEqual("README.md has a row '" + start + "'", readme.contains("\n" + start), true);
    }

    private static Method method(String name) throws NoSuchMethodException {
        return Arrays.stream(CoreEnumerator.class.getDeclaredMethods())
                .filter(method -> method.getName().equals(name))
                .findFirst().orElseThrow(() -> new NoSuchMethodException(name));
    }

    private static Object[] numbers(String list) throws ReflectiveOperationException {
        String[] words = list.isEmpty() ? new String[0] : list.split(", ");
        Object[] found = new Object[words.length];
        for (int i = 0; i < words.length; i++) {
            found[i] = number(words[i]);
        }
        return found;
    }

    /** A number as it stands, or the value of the constant of that name. */
    private static int number(String word) throws ReflectiveOperationException {
        if (word.matches("-?\\d+")) {
            return Integer.parseInt(word);
        }
        return CoreEnumerator.class.getField(word.replace("CoreEnumerator.", "")).getInt(null);
    }
}
