import java.io.IOException;
import java.lang.reflect.Method;
import java.lang.reflect.Modifier;
import java.nio.file.Files;
import java.nio.file.Path;
import java.util.List;
import java.util.regex.Matcher;
import java.util.regex.Pattern;

/** The example of README.md answers what its comments say, and its table has every call. */
public final class ReadmeTest {
    private static final Pattern MADE = Pattern.compile("PebbleFrame x = new PebbleFrame\\((\\d+)\\);");
    private static final Pattern CALL = Pattern.compile("x\\.(\\w+)\\((.*?)\\);\\s*// ([\\w.-]+?)(?:[,:] .*)?");

    /** .ci/run starts the tests in the project's directory. */
    public static void main(String[] args) throws IOException, ReflectiveOperationException {
        List<String> lines = Files.readAllLines(Path.of("README.md"));
        runExample(lines);
        for (Method method : PebbleFrame.class.getDeclaredMethods()) {
            if (Modifier.isPublic(method.getModifiers())) {
                hasRow(lines, method.getName());
            }
        }
        Check.end();
    }

    private static void runExample(List<String> lines) throws ReflectiveOperationException {
        int start = lines.indexOf("```java") + 1;
        Matcher made = MADE.matcher(lines.get(start));
        Check.due("the example begins with an object", made.matches(), true);
        PebbleFrame x = new PebbleFrame(Integer.parseInt(made.group(1)));
        for (int i = start + 1; !lines.get(i).equals("```"); i++) {
            Matcher call = CALL.matcher(lines.get(i));
            Check.due(lines.get(i) + " is a call with its answer", call.matches(), true);
            Check.due(lines.get(i), answer(x, call.group(1), call.group(2)), plain(call.group(3)));
        }
    }

    private static String answer(PebbleFrame x, String name, String given) throws ReflectiveOperationException {
        String[] texts = given.isEmpty() ? new String[0] : given.split(", ");
        Class<?>[] types = new Class<?>[texts.length];
        Object[] numbers = new Object[texts.length];
        for (int i = 0; i < texts.length; i++) {
            types[i] = int.class;
            numbers[i] = Integer.valueOf(texts[i]);
        }
        return PebbleFrame.class.getMethod(name, types).invoke(x, numbers).toString();
    }

    private static String plain(String answer) {
        return answer.equals("PebbleFrame.NONE") ? "-1" : answer;
    }

    private static void hasRow(List<String> lines, String name) {
        boolean found = false;
        for (String line : lines) {
            found |= line.startsWith("| `" + name + "(");
        }
        Check.due("the table has " + name, found, true);
    }
}
