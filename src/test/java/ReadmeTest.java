import java.io.IOException;
import java.lang.reflect.Method;
import java.lang.reflect.Modifier;
import java.nio.file.Files;
import java.nio.file.Path;
import java.util.regex.Matcher;
import java.util.regex.Pattern;

/** The calls that README.md shows, in their order, answer what it says of them. */
public final class ReadmeTest {
    /** A call, and the answer with which the comment behind it begins. */
    private static final Pattern CALL = Pattern.compile("office\\.(\\w+)\\((.*?)\\);\\s*// (-?\\w+)(:.*)?");

    public static void main(String[] args) throws IOException, ReflectiveOperationException {
        Check check = new Check();
        RainOffice office = new RainOffice();
        int calls = 0;
        for (String line : Files.readAllLines(Path.of("README.md"))) {
            if (!line.startsWith("office.")) continue;
            Matcher call = CALL.matcher(line);
            check.due("told with its answer: " + line, call.matches(), true);
            if (!call.matches()) continue;
            check.due(line, answer(office, call.group(1), call.group(2)), number(call.group(3)));
            calls++;
        }
        check.due("there are calls in README.md", calls > 0, true);
        for (Method method : RainOffice.class.getDeclaredMethods()) {
            if (Modifier.isPublic(method.getModifiers())) {
                check.due("README.md tells of " + method.getName(), isTold(method.getName()), true);
            }
        }
        check.end("ReadmeTest");
    }

    private static boolean isTold(String name) throws IOException {
        return Files.readString(Path.of("README.md")).contains("`" + name + "(");
    }

    private static long answer(RainOffice office, String name, String list) throws ReflectiveOperationException {
        String[] texts = list.isEmpty() ? new String[0] : list.split(", ");
        for (Method method : RainOffice.class.getMethods()) {
            if (method.getName().equals(name) && method.getParameterCount() == texts.length) {
                Object[] values = new Object[texts.length];
                for (int i = 0; i < texts.length; i++) values[i] = value(method.getParameterTypes()[i], texts[i]);
                return ((Number) method.invoke(office, values)).longValue();
            }
        }
        throw new NoSuchMethodException(name + " with " + texts.length + " arguments");
    }

    private static Object value(Class<?> type, String text) {
        if (type == boolean.class) return Boolean.valueOf(text);
        return type == long.class ? (Object) Long.valueOf(text) : Integer.valueOf(text);
    }

    private static long number(String text) {
        if (text.equals("NONE")) return RainOffice.NONE;
        return text.equals("WRONG") ? RainOffice.WRONG : Long.parseLong(text);
    }
}
