import java.io.IOException;
import java.lang.reflect.Field;
import java.lang.reflect.Method;
import java.lang.reflect.Modifier;
import java.nio.file.Files;
import java.nio.file.Path;
import java.util.Arrays;
import java.util.regex.Matcher;
import java.util.regex.Pattern;

/** What README.md says of the class holds: the answers in its example, and that it names every call and constant. */
public final class ReadmeTest {
    private static final Pattern MADE = Pattern.compile("RelationNet net = new RelationNet\\((\\d+)\\);.*");
    private static final Pattern CALLED = Pattern.compile("net\\.(\\w+)\\((.*?)\\); *// (-?\\d+)(:.*)?");

    private static final Checks checks = new Checks();

    public static void main(String[] args) throws IOException, ReflectiveOperationException {
        String text = Files.readString(Path.of("README.md"));
        int start = text.indexOf("```java\n") + "```java\n".length();
        example(text.substring(start, text.indexOf("```", start)).split("\n"));
        everythingIsNamed(text);
        checks.end();
    }

    private static void example(String[] lines) throws ReflectiveOperationException {
        Matcher made = MADE.matcher(lines[0]);
        checks.holds("the example begins with a new object, not with " + lines[0], made.matches());
        RelationNet net = new RelationNet(Integer.parseInt(made.group(1)));
        for (int k = 1; k < lines.length; k++) {
            Matcher called = CALLED.matcher(lines[k]);
            boolean isCall = called.matches();
            checks.holds("a call and its answer: " + lines[k], isCall);
            if (isCall) {
                checks.due(lines[k], answer(net, called.group(1), called.group(2)), Integer.parseInt(called.group(3)));
            }
        }
    }

    private static int answer(RelationNet net, String name, String arguments) throws ReflectiveOperationException {
        String[] parts = arguments.isEmpty() ? new String[0] : arguments.split(", ");
        Class<?>[] types = new Class<?>[parts.length];
        Arrays.fill(types, int.class);
        Object[] values = Arrays.stream(parts).map(Integer::valueOf).toArray();
        return (Integer) RelationNet.class.getMethod(name, types).invoke(net, values);
    }

    private static void everythingIsNamed(String text) {
        for (Method method : RelationNet.class.getDeclaredMethods()) {
            if (Modifier.isPublic(method.getModifiers())) {
                checks.holds("README.md tells of " + method.getName(), text.contains("`" + method.getName() + "("));
            }
        }
        for (Field field : RelationNet.class.getDeclaredFields()) {
            if (Modifier.isPublic(field.getModifiers())) {
                checks.holds("README.md tells of " + field.getName(), text.contains("`" + field.getName() + "`"));
            }
        }
    }
}
