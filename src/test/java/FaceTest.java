import java.lang.reflect.Field;
import java.lang.reflect.Method;
import java.lang.reflect.Modifier;
import java.util.TreeSet;

/** The public face: no more and no less than the document's constants, constructor and methods. */
public final class FaceTest {
    public static void main(String[] args) throws IllegalAccessException {
        Checks checks = new Checks();
        constants(checks);
        TreeSet<String> methods = new TreeSet<>();
        for (Method method : TermReader.class.getDeclaredMethods()) {
            String name = method.getReturnType() + " " + method.getName() + method.getParameterCount();
            if (Modifier.isPublic(method.getModifiers())) {
                methods.add(name);
                for (Class<?> parameter : method.getParameterTypes()) {
                    checks.due("parameter of " + name, parameter, int.class);
                }
            } else {
                checks.due("private " + name, Modifier.isPrivate(method.getModifiers()), true);
            }
        }
        checks.due("methods", methods.toString(), "[boolean same0, int again0, int fault0, int feed5,"
                + " int names0, int node3, int nodes1, int part3, int read2, int spelt2, int whole2,"
                + " int write2, int written1]");
        checks.due("constructors", TermReader.class.getDeclaredConstructors().length, 1);
        checks.due("public constructors", TermReader.class.getConstructors().length, 1);
        checks.due("class", TermReader.class.getModifiers(), Modifier.PUBLIC | Modifier.FINAL);
        checks.end();
    }

    private static void constants(Checks checks) throws IllegalAccessException {
        checks.about("public static final int NONE = -1;");
        Field[] fields = TermReader.class.getFields();
        checks.due("public fields", fields.length, 1);
        for (Field field : fields) {
            checks.due("name", field.getName(), "NONE");
            checks.due("type", field.getType(), int.class);
            checks.due("modifiers", field.getModifiers(), Modifier.PUBLIC | Modifier.STATIC | Modifier.FINAL);
            checks.due("value", field.getInt(null), -1);
        }
        checks.about("public final class TermReader");
    }
}
