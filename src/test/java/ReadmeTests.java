import java.io.IOException;
import java.lang.reflect.InvocationTargetException;
import java.lang.reflect.Method;
import java.lang.reflect.Modifier;
import java.nio.file.Files;
import java.nio.file.Path;
import java.util.TreeSet;
import java.util.regex.Matcher;
import java.util.regex.Pattern;

/** The calls of README.md, each with the answer that stands behind it, all on one object. */
public final class ReadmeTests {
    private static final Checks c = new Checks();
    private static final Path ROOT = Path.of(System.getProperty("project.root", "."));
    private static final Pattern CALL = Pattern.compile("x\\.(\\w+)\\(([^)]*)\\); +// (-?\\d+|Illegal\\w+)(:.*)?");

    public static void main(String[] args) throws IOException, ReflectiveOperationException {
        TaskTrace x = new TaskTrace();
        TreeSet<String> called = new TreeSet<>();
        for (String line : Files.readString(ROOT.resolve("README.md")).split("\n")) {
            if (!line.startsWith("x.")) {
                continue;
            }
            Matcher call = CALL.matcher(line);
            c.holds("call and answer: " + line, call.matches());
            if (call.matches()) {
                called.add(call.group(1));
                String got = outcome(x, call.group(1), call.group(2));
                c.holds("as README.md says: " + line + " (got " + got + ")", got.equals(call.group(3)));
            }
        }
        for (Method m : TaskTrace.class.getDeclaredMethods()) {
            if (Modifier.isPublic(m.getModifiers())) {
                c.holds("README.md calls " + m.getName(), called.contains(m.getName()));
            }
        }
        c.end();
    }

    private static String outcome(TaskTrace x, String name, String numbers) throws ReflectiveOperationException {
        Method method = named(name);
        String[] texts = numbers.isEmpty() ? new String[0] : numbers.split(", ");
        Object[] args = new Object[texts.length];
        for (int i = 0; i < args.length; i++) {
            boolean wide = method.getParameterTypes()[i] == long.class;
            args[i] = wide ? (Object) Long.valueOf(texts[i]) : (Object) Integer.valueOf(texts[i]);
        }
        try {
            return method.invoke(x, args).toString();
        } catch (InvocationTargetException e) {
            return e.getCause().getClass().getSimpleName();
        }
    }

    private static Method named(String name) {
        for (Method m : TaskTrace.class.getDeclaredMethods()) {
            if (m.getName().equals(name)) {
                return m;
            }
        }
        throw new IllegalArgumentException("README.md calls what the class hasn't: " + name);
    }
}
