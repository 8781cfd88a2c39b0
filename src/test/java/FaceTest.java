import java.lang.reflect.Method;
import java.lang.reflect.Modifier;
import java.util.TreeSet;

/** The public face: no more and no less than the document's constants, constructor and methods. */
public final class FaceTest {
    public static void main(String[] args) {
        Checks checks = new Checks();
        TreeSet<String> methods = new TreeSet<>();
        TreeSet<String> others = new TreeSet<>();
        for (Method method : TermReader.class.getDeclaredMethods()) {
            String name = method.getReturnType() + " " + method.getName() + method.getParameterCount();
            (Modifier.isPublic(method.getModifiers()) ? methods : others).add(name);
            if (!Modifier.isPublic(method.getModifiers())) {
                checks.due("private " + name, Modifier.isPrivate(method.getModifiers()), true);
            }
        }
        checks.due("methods", methods.toString(), "[boolean same0, int again0, int fault0, int feed5,"
                + " int names0, int node3, int nodes1, int part3, int read2, int spelt2, int whole2,"
                + " int write2, int written1]");
        checks.due("constructors", TermReader.class.getDeclaredConstructors().length, 1);
        checks.due("public fields", TermReader.class.getFields().length, 1);
        checks.due("class", TermReader.class.getModifiers(), Modifier.PUBLIC | Modifier.FINAL);
        checks.end();
    }
}
