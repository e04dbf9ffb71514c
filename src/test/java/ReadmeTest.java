import java.io.IOException;
import java.lang.reflect.Method;
import java.lang.reflect.Modifier;
import java.nio.file.Files;
import java.nio.file.Path;
import java.util.Arrays;
import java.util.regex.Matcher;
import java.util.regex.Pattern;

/** What README.md says of the use of the class; run from the project's root. */
public final class ReadmeTest {
    private static final Check CHECK = new Check("ReadmeTest");
    /** A call and, behind //, the number that it answers. */
    private static final Pattern CALL = Pattern.compile("x\\.(\\w+)\\((.*?)\\);\\s*(?://\\s*(-?\\d+))?.*");

    private ReadmeTest() {
    }

    public static void main(String[] args) throws IOException, ReflectiveOperationException {
        String readme = Files.readString(Path.of("README.md"));
        int begin = readme.indexOf("```java");
        int end = readme.indexOf("```", begin + 3);
        CHECK.due("there is an example", begin >= 0 && end > begin ? 1 : 0, 1);
        if (end > begin) {
            example(readme.substring(begin, end));
        }
        for (Method method : HeapVersions.class.getDeclaredMethods()) {
            if (Modifier.isPublic(method.getModifiers())) {
                CHECK.due(method.getName() + " is named", readme.contains("`" + method.getName() + "`") ? 1 : 0, 1);
            }
        }
        CHECK.finish();
    }

    private static void example(String text) throws ReflectiveOperationException {
        HeapVersions x = new HeapVersions();
        int calls = 0;
        for (String line : text.split("\n")) {
            Matcher call = CALL.matcher(line);
            if (call.matches()) {
                calls++;
                int got = answer(x, call.group(1), call.group(2));
                CHECK.due(line + " says what it answers", call.group(3) == null ? 0 : 1, 1);
                CHECK.due(line, got, call.group(3) == null ? got : Integer.parseInt(call.group(3)));
            }
        }
        CHECK.due("calls in the example", calls > 0 ? 1 : 0, 1);
    }

    private static int answer(HeapVersions x, String name, String list) throws ReflectiveOperationException {
        String[] words = list.isEmpty() ? new String[0] : list.split(",\\s*");
        Class<?>[] types = new Class<?>[words.length];
        Arrays.fill(types, int.class);
        Object[] numbers = new Object[words.length];
        for (int i = 0; i < words.length; i++) {
            numbers[i] = Integer.decode(words[i]);
        }
        return (Integer) HeapVersions.class.getMethod(name, types).invoke(x, numbers);
    }
}
