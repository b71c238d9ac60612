import java.lang.reflect.Constructor;
import java.lang.reflect.Field;
import java.lang.reflect.Method;
import java.lang.reflect.Modifier;
import java.util.TreeSet;

/** The class has the document's face, and nothing else that is not private. */
final class FaceTest {
    /** In the document's order. */
    static final String[] METHODS = {
        "boolean unit(int)", "int read()",
        "int fault(int,int,int) throws IndexOutOfBoundsException IllegalStateException IllegalArgumentException",
        "int run(int) throws IllegalStateException IllegalArgumentException",
        "long covered(int,int) throws IllegalStateException IllegalArgumentException",
        "int machine(int) throws IllegalStateException IndexOutOfBoundsException",
        "boolean scramble(int,int) throws IndexOutOfBoundsException",
        "int failing(int,int) throws IndexOutOfBoundsException",
        "int repair(int,int,long) throws IllegalArgumentException",
        "int spare(int,int) throws IndexOutOfBoundsException", "boolean proved()",
        "int fuse(int) throws IndexOutOfBoundsException", "int port(int) throws IllegalArgumentException",
        "boolean ground(int) throws IllegalArgumentException"
    };

    private static String told(Method m) {
        StringBuilder text = new StringBuilder(m.getReturnType() + " " + m.getName() + "(");
        Class<?>[] types = m.getParameterTypes();
        for (int i = 0; i < types.length; i++) {
            text.append(i > 0 ? "," : "").append(types[i]);
        }
        text.append(")");
        Class<?>[] thrown = m.getExceptionTypes();
        for (int i = 0; i < thrown.length; i++) {
            text.append(i == 0 ? " throws " : " ").append(thrown[i].getSimpleName());
        }
        return text.toString();
    }

    public static void main(String[] args) {
        Check check = new Check("the public face");
        Class<?> c = MarchTests.class;
        check.sentence("public final class MarchTests");
        check.due("the class is public and final", Modifier.PUBLIC | Modifier.FINAL, c::getModifiers);
        TreeSet<String> seen = new TreeSet<>();
        TreeSet<String> names = new TreeSet<>();
        for (Method m : c.getDeclaredMethods()) {
            if (!Modifier.isPrivate(m.getModifiers())) {
                seen.add(told(m));
                names.add(m.getName());
            }
        }
        check.due("the public methods", new TreeSet<>(java.util.List.of(METHODS)), () -> seen);
        for (Method m : c.getDeclaredMethods()) {
            check.due("a private method named " + m.getName() + " as a public one is", false,
                () -> Modifier.isPrivate(m.getModifiers()) && names.contains(m.getName()));
        }
        Constructor<?>[] made = c.getDeclaredConstructors();
        check.due("constructors", 1, () -> made.length);
        check.due("the constructor is public", Modifier.PUBLIC, () -> made[0].getModifiers());
        check.due("the constructor", "[int, int]", () -> java.util.Arrays.toString(made[0].getParameterTypes()));
        for (Field f : c.getDeclaredFields()) {
            boolean none = f.getName().equals("NONE");
            check.due("field " + f.getName() + " is public", none, () -> !Modifier.isPrivate(f.getModifiers()));
        }
        for (Class<?> inside : c.getDeclaredClasses()) {
            check.due("class " + inside.getName() + " is static", true, () -> Modifier.isStatic(inside.getModifiers()));
        }
        check.sentence("public static final int NONE = -1;");
        check.due("NONE", -1, () -> MarchTests.NONE);
        check.finish();
    }
}
