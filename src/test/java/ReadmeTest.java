import java.io.IOException;
import java.lang.reflect.Method;
import java.nio.file.Files;
import java.nio.file.Path;
import java.util.regex.Matcher;
import java.util.regex.Pattern;

/** Each call that README.md shows answers what stands behind it there. */
public final class ReadmeTest {
    private static final String NEW = "ReadAge judge = new ReadAge();";
    private static final Pattern CALL = Pattern.compile("^judge\\.(\\w+)\\(([^)]*)\\); +// (true|false|-?\\d+)(:.*)?$");

    public static void main(String[] args) throws IOException, ReflectiveOperationException {
        Due due = new Due().in("README.md");
        ReadAge judge = null;
        boolean inJava = false;
        int shown = 0;
        for (String line : Files.readString(Path.of("README.md")).split("\n")) {
            Matcher matcher = CALL.matcher(line);
            if (line.startsWith("```")) {
                inJava = line.equals("```java");
                judge = null;
            } else if (inJava && line.equals(NEW)) {
                judge = new ReadAge();
            } else if (inJava && judge != null && matcher.matches()) {
                due.is(line, answer(judge, matcher.group(1), matcher.group(2)), number(matcher.group(3)));
                shown++;
            } else if (inJava) {
                due.is("not a call with its answer: " + line, 0, 1);
            }
        }
        due.is("it shows some calls", shown > 40, true);
        Due.end(due);
    }

    private static long number(String told) {
        switch (told) {
            case "true":
                return 1;
            case "false":
                return 0;
            default:
                return Long.parseLong(told);
        }
    }

    private static long answer(ReadAge judge, String name, String told) throws ReflectiveOperationException {
        for (Method method : ReadAge.class.getMethods()) {
            String[] parts = told.isEmpty() ? new String[0] : told.split(", ");
            if (method.getName().equals(name) && method.getParameterCount() == parts.length
                    && method.getDeclaringClass() == ReadAge.class) {
                Object[] values = new Object[parts.length];
                for (int i = 0; i < parts.length; i++) {
                    values[i] = value(method.getParameterTypes()[i], parts[i]);
                }
                return number(String.valueOf(method.invoke(judge, values)));
            }
        }
        throw new IllegalStateException("no such method: " + name);
    }

    private static Object value(Class<?> type, String told) {
        if (type == boolean.class) {
            return Boolean.valueOf(told);
        }
        if (type == long.class) {
            return Long.valueOf(told);
        }
        return Integer.valueOf(told);
    }
}
