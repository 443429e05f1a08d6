import java.io.IOException;
import java.lang.reflect.InvocationTargetException;
import java.lang.reflect.Method;
import java.nio.file.Files;
import java.nio.file.Path;
import java.util.regex.Matcher;
import java.util.regex.Pattern;

/** The examples of README.md: each call behind the one before, on one object, has to answer what stands there. */
public final class ReadmeTest {
    private static final Path FILE = Path.of("README.md");
    private static final Pattern EXAMPLE =
            Pattern.compile("x\\.(\\w+)\\((.*)\\);\\s+// (throws \\w+|\"[^\"]*\"|-?\\w+)(: .*)?");
    private static final Check CHECK = new Check();

    public static void main(String[] args) throws IOException {
        Wordnet x = new Wordnet();
        int made = 0;
        for (String line : Files.readAllLines(FILE)) {
            if (line.startsWith("x.")) {
                Matcher example = EXAMPLE.matcher(line);
                CHECK.same("an example can be read: " + line, example.matches(), true);
                CHECK.same(line, answer(x, example.group(1), example.group(2)), example.group(3));
                made++;
            }
        }
        CHECK.same(made + " examples are enough", made >= 30, true);
        CHECK.end();
    }

    private static String answer(Wordnet x, String name, String written) {
        try {
            Method method = methodOf(name);
            Object got = method.invoke(x, argumentsOf(written));
            return got instanceof String ? "\"" + got + "\"" : String.valueOf(got);
        } catch (InvocationTargetException e) {
            return "throws " + e.getCause().getClass().getSimpleName();
        } catch (IllegalAccessException e) {
            throw new IllegalStateException(e);
        }
    }

    private static Method methodOf(String name) {
        for (Method method : Wordnet.class.getMethods()) {
            if (method.getName().equals(name)) {
                return method;
            }
        }
        throw new IllegalStateException("no method " + name);
    }

    private static Object[] argumentsOf(String written) {
        if (written.isEmpty()) {
            return new Object[0];
        }
        String[] parts = written.split(", ");
        Object[] arguments = new Object[parts.length];
        for (int k = 0; k < parts.length; k++) {
            boolean isFlag = parts[k].equals("true") || parts[k].equals("false");
            arguments[k] = isFlag ? (Object) Boolean.valueOf(parts[k]) : (Object) Integer.valueOf(parts[k]);
        }
        return arguments;
    }
}
