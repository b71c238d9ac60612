import java.lang.reflect.Constructor;
import java.lang.reflect.Field;
import java.lang.reflect.Method;
import java.lang.reflect.Modifier;
import java.util.TreeSet;

/** The class has the document's face, and nothing else that is not private. */
final class FaceTest {
    private static final String[] METHODS = {
        "boolean unit(int)", "int read()", "int fault(int,int,int)", "int run(int)", "long covered(int,int)",
        "int machine(int)", "boolean scramble(int,int)", "int failing(int,int)", "int repair(int,int,long)",
        "int spare(int,int)", "boolean proved()", "int fuse(int)", "int port(int)", "boolean ground(int)"
    };

    private static String told(Method m) {
        StringBuilder text = new StringBuilder(m.getReturnType() + " " + m.getName() + "(");
        Class<?>[] types = m.getParameterTypes();
        for (int i = 0; i < types.length; i++) {
            text.append(i > 0 ? "," : "").append(types[i]);
        }
        return text.append(")").toString();
    }

    public static void main(String[] args) {
        Check check = new Check("the public face");
        Class<?> c = MarchTests.class;
        check.due("the class is public and final", Modifier.PUBLIC | Modifier.FINAL, c::getModifiers);
        TreeSet<String> seen = new TreeSet<>();
        TreeSet<String> names = new TreeSet<>();
        for (Method m : c.getDeclaredMethods()) {
            if (!Modifier.isPrivate(m.getModifiers())) {
                seen.add(told(m));
                names.add(m.getName());
            }
        }
        check.due("the public methods", new TreeSet<>(java.util.List.of(METHODS)), () -> seen);
        for (Method m : c.getDeclaredMethods()) {
            check.due("a private method named " + m.getName() + " as a public one is", false,
                () -> Modifier.isPrivate(m.getModifiers()) && names.contains(m.getName()));
        }
        Constructor<?>[] made = c.getDeclaredConstructors();
        check.due("constructors", 1, () -> made.length);
        check.due("the constructor is public", Modifier.PUBLIC, () -> made[0].getModifiers());
        check.due("the constructor", "[int, int]", () -> java.util.Arrays.toString(made[0].getParameterTypes()));
        for (Field f : c.getDeclaredFields()) {
            boolean none = f.getName().equals("NONE");
            check.due("field " + f.getName() + " is public", none, () -> !Modifier.isPrivate(f.getModifiers()));
        }
        for (Class<?> inside : c.getDeclaredClasses()) {
            check.due("class " + inside.getName() + " is static", true, () -> Modifier.isStatic(inside.getModifiers()));
        }
        check.due("NONE", -1, () -> MarchTests.NONE);
        check.finish();
    }
}
