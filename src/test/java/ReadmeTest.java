import java.io.IOException;
import java.lang.reflect.InvocationTargetException;
import java.lang.reflect.Method;
import java.lang.reflect.Modifier;
import java.nio.file.Files;
import java.nio.file.Path;
import java.util.TreeSet;
import java.util.regex.Matcher;
import java.util.regex.Pattern;

/** README.md: its calls, one behind the other on a new object, answer what it says they do. */
public final class ReadmeTest {
    private static final Pattern CALL = Pattern.compile("^reader\\.(\\w+)\\((.*)\\); +// (-?\\w+): .*$");
    private static final Checks CHECKS = new Checks();

    public static void main(String[] args) throws IOException, ReflectiveOperationException {
        TermReader reader = new TermReader();
        TreeSet<String> called = new TreeSet<>();
        for (String line : Files.readAllLines(Path.of("README.md"))) {
            Matcher call = CALL.matcher(line);
            if (call.matches()) {
                called.add(call.group(1));
                CHECKS.due(line, answer(reader, call.group(1), call.group(2)), call.group(3));
            } else {
                CHECKS.due("a call without an answer: " + line, line.startsWith("reader."), false);
            }
        }
        CHECKS.due("calls that README.md shows", called, faceOf());
        CHECKS.end();
    }

    private static String answer(TermReader reader, String name, String numbers)
            throws IllegalAccessException, InvocationTargetException {
        String[] given = numbers.isEmpty() ? new String[0] : numbers.split(", ");
        Object[] arguments = new Object[given.length];
        for (int i = 0; i < given.length; i++) {
            arguments[i] = Integer.decode(given[i]);
        }
        for (Method method : TermReader.class.getDeclaredMethods()) {
            if (method.getName().equals(name)) {
                return "" + method.invoke(reader, arguments);
            }
        }
        return "no such call";
    }

    private static TreeSet<String> faceOf() {
        TreeSet<String> face = new TreeSet<>();
        for (Method method : TermReader.class.getDeclaredMethods()) {
            if (Modifier.isPublic(method.getModifiers())) {
                face.add(method.getName());
            }
        }
        return face;
    }
}
