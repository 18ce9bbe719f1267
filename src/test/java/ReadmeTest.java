import java.io.IOException;
import java.lang.reflect.Method;
import java.lang.reflect.Modifier;
import java.nio.file.Files;
import java.nio.file.Path;
import java.util.regex.Matcher;
import java.util.regex.Pattern;

/** README.md tells of every call and constant, and its example answers what it says. */
public final class ReadmeTest {
    private static final Pattern CALL = Pattern.compile("desk\\.(\\w+)\\(([^)]*)\\); +// (-?\\w+)");
    private static final Checks ask = new Checks();

    private static Method method(String name) {
        for (Method one : MineDesk.class.getDeclaredMethods()) {
            if (Modifier.isPublic(one.getModifiers()) && one.getName().equals(name)) {
                return one;
            }
        }
        throw new IllegalStateException("README.md calls " + name + ", which isn't there");
    }

    private static Object[] arguments(Method method, String text) {
        String[] words = text.isEmpty() ? new String[0] : text.split(", ");
        Object[] values = new Object[words.length];
        for (int i = 0; i < words.length; i++) {
            boolean truth = method.getParameterTypes()[i] == boolean.class;
            values[i] = truth ? (Object) Boolean.valueOf(words[i]) : (Object) Integer.valueOf(words[i]);
        }
        return values;
    }

    private static void example(String readme) throws ReflectiveOperationException {
        ask.about("the example");
        MineDesk desk = new MineDesk();
        int calls = 0;
        Matcher line = CALL.matcher(readme);
        while (line.find()) {
            calls++;
            Method method = method(line.group(1));
            String got = String.valueOf(method.invoke(desk, arguments(method, line.group(2))));
            ask.due(line.group() + ", got " + got, got.equals(line.group(3)), true);
        }
        int lines = readme.split("\ndesk\\.", -1).length - 1;
        ask.due("calls that tell their answer", calls, lines);
        ask.due("there are some", calls > 0, true);
    }

    private static void calls(String readme) {
        ask.about("the calls");
        for (Method method : MineDesk.class.getDeclaredMethods()) {
            if (Modifier.isPublic(method.getModifiers())) {
                ask.due(method.getName(), readme.contains("`" + method.getName() + "("), true);
            }
        }
        for (String constant : new String[] {"NUMBER", "STATE", "LONG", "FULL", "HIT"}) {
            ask.due(constant, readme.contains("`" + constant + "` (-"), true);
        }
    }

    public static void main(String[] args) throws IOException, ReflectiveOperationException {
        String readme = Files.readString(Path.of("README.md"));
        example(readme);
        calls(readme);
        ask.end();
    }
}
