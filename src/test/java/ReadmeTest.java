import java.io.IOException;
import java.lang.reflect.Method;
import java.lang.reflect.Modifier;
import java.nio.file.Files;
import java.nio.file.Path;
import java.util.regex.Matcher;
import java.util.regex.Pattern;

/** The example of README.md: each call there answers the number that stands beside it. */
public final class ReadmeTest {
    private static final Pattern NEW = Pattern.compile("AtlasPacker sheet = new AtlasPacker\\((\\d+), (\\d+)\\);");
    private static final Pattern CALL = Pattern.compile("sheet\\.(\\w+)\\((.*)\\); *// (-?\\d+):.*");
    private static final Due due = new Due();

    public static void main(String[] args) throws IOException, ReflectiveOperationException {
        due.sentence("README.md");
        String example = Files.readString(Path.of("README.md")).split("```java\n|```\n")[1];
        String[] lines = example.split("\n");
        Matcher size = NEW.matcher(lines[0]);
        due.isTrue("the example begins with a new object: " + lines[0], size.matches());
        AtlasPacker sheet = new AtlasPacker(Integer.parseInt(size.group(1)), Integer.parseInt(size.group(2)));
        for (int i = 1; i < lines.length; i++) {
            Matcher call = CALL.matcher(lines[i]);
            // A line of another form would otherwise go by untested.
            due.isTrue("a call with its answer: " + lines[i], call.matches());
            due.is(lines[i], answer(sheet, call.group(1), call.group(2)), Integer.parseInt(call.group(3)));
        }
        everyMethodIsThere(example);
        due.end();
    }

    private static int answer(AtlasPacker sheet, String name, String arguments) throws ReflectiveOperationException {
        String[] words = arguments.isEmpty() ? new String[0] : arguments.split(", ");
        Object[] values = new Object[words.length];
        Class<?>[] types = new Class<?>[words.length];
        for (int i = 0; i < words.length; i++) {
            boolean isFlag = words[i].equals("true") || words[i].equals("false");
            types[i] = isFlag ? boolean.class : int.class;
            values[i] = isFlag ? (Object) Boolean.valueOf(words[i]) : Integer.valueOf(words[i]);
        }
        return (Integer) AtlasPacker.class.getMethod(name, types).invoke(sheet, values);
    }

    private static void everyMethodIsThere(String example) {
        for (Method method : AtlasPacker.class.getDeclaredMethods()) {
            if (Modifier.isPublic(method.getModifiers())) {
                due.isTrue("the example calls " + method.getName(), example.contains("sheet." + method.getName() + "("));
            }
        }
    }
}
