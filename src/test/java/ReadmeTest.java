import java.io.IOException;
import java.lang.reflect.Method;
import java.nio.file.Files;
import java.nio.file.Path;
import java.util.Set;
import java.util.TreeSet;
import java.util.regex.Matcher;
import java.util.regex.Pattern;

/** The example of README.md: each call answers what stands behind it, and no call of the face is left out. */
public final class ReadmeTest {
    private static final String HEAD = "SpilledGroups x = new SpilledGroups();";
    private static final Pattern CALL = Pattern.compile("x\\.(\\w+)\\((.*)\\); +// (-?\\d+|[A-Z_]+)(:.*)?");

    public static void main(String[] args) throws IOException, ReflectiveOperationException {
        String readme = Files.readString(Path.of(System.getProperty("project.root", "."), "README.md"));
        Matcher block = Pattern.compile("(?s)```java\n(.*?)```").matcher(readme);
        Check.that(block.find(), "README.md has no example");
        SpilledGroups x = new SpilledGroups();
        Set<String> called = new TreeSet<>();
        for (String line : block.group(1).split("\n")) {
            if (!line.isEmpty() && !line.equals(HEAD)) {
                called.add(call(x, line));
            }
        }
        Check.that(!block.find(), "README.md has a second example, which is not tested");
        for (Method method : SpilledGroups.class.getMethods()) {
            if (method.getDeclaringClass() == SpilledGroups.class) {
                Check.that(called.contains(method.getName()), "the example doesn't call " + method.getName());
                Check.that(readme.contains("`" + method.getName() + "`"), "no table names " + method.getName());
            }
        }
        for (String error : new String[] {"INVALID_ARGUMENT", "NOT_POSSIBLE", "LIMIT_REACHED", "NOT_FOUND"}) {
            Check.that(readme.contains("| `" + error + "` | " + number(error) + " |"), "no table has the number of " + error);
        }
        Check.end();
    }

    /** Does the call of a line, compares its answer, and returns its name. */
    private static String call(SpilledGroups x, String line) throws ReflectiveOperationException {
        Matcher parts = CALL.matcher(line);
        if (!parts.matches()) {
            Check.that(false, "not understood: " + line);
            return "";
        }
        String[] texts = parts.group(2).isEmpty() ? new String[0] : parts.group(2).split(", ");
        Class<?>[] types = new Class<?>[texts.length];
        Object[] arguments = new Object[texts.length];
        for (int i = 0; i < texts.length; i++) {
            types[i] = int.class;
            arguments[i] = texts[i].startsWith("'") ? texts[i].charAt(1) : Integer.parseInt(texts[i]);
        }
        Object answer = SpilledGroups.class.getMethod(parts.group(1), types).invoke(x, arguments);
        Check.due(line, (Integer) answer, number(parts.group(3)));
        return parts.group(1);
    }

    private static int number(String text) throws ReflectiveOperationException {
        return Character.isUpperCase(text.charAt(0)) ? SpilledGroups.class.getField(text).getInt(null) : Integer.parseInt(text);
    }
}
