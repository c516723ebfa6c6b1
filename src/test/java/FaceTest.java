import java.lang.reflect.Constructor;
import java.lang.reflect.Field;
import java.lang.reflect.Method;
import java.lang.reflect.Modifier;
import java.util.Set;
import java.util.TreeSet;

/** The class shows the document's face and nothing else. */
public final class FaceTest {
    private static final String[] FACE = {
        "boolean put(int, long, int)", "boolean copy(int, int, boolean)", "boolean add(int, int, int)",
        "boolean take(int, int, int)", "boolean times(int, int, int)", "boolean power(int, int, int)",
        "boolean divide(int, int, int, int, int)", "boolean ratio(int, int, int, int, int)",
        "boolean whole(int, int, int, int)", "boolean root(int, int, int, int)",
        "boolean rescale(int, int, int, int)", "boolean round(int, int, int, int)", "boolean strip(int, int)",
        "boolean move(int, int, int)", "int compare(int, int)", "int sign(int)", "int precision(int)", "int scale(int)",
        "int digit(int, int)", "boolean type(long)", "boolean read(int)", "int write(int, int)", "int characterAt(int)"
    };

    private FaceTest() {}

    public static void main(String[] args) {
        Set<String> due = new TreeSet<>(Set.of(FACE));
        Set<String> found = new TreeSet<>();
        Set<String> names = new TreeSet<>();
        for (Method m : TensMill.class.getDeclaredMethods()) {
            if (!Modifier.isPrivate(m.getModifiers())) {
                found.add(text(m));
                names.add(m.getName());
                Bench.due(m.getName() + " is public and of the object", Modifier.PUBLIC, m.getModifiers());
            }
        }
        Bench.due("the methods", due, found);
        for (Method m : TensMill.class.getDeclaredMethods()) {
            boolean hidden = Modifier.isPrivate(m.getModifiers()) && names.contains(m.getName());
            Bench.due("a private " + m.getName(), false, hidden);
        }
        for (Field f : TensMill.class.getDeclaredFields()) {
            Bench.due(f.getName() + " is private", true, Modifier.isPrivate(f.getModifiers()));
        }
        for (Constructor<?> c : TensMill.class.getDeclaredConstructors()) {
            Bench.due("the constructor", "public TensMill()", c.toString());
        }
        Bench.due("the class", Modifier.PUBLIC | Modifier.FINAL, TensMill.class.getModifiers());
        for (Class<?> c : TensMill.class.getDeclaredClasses()) {
            Bench.due(c.getName() + " is static", true, Modifier.isStatic(c.getModifiers()));
            Bench.due(c.getName() + " is not public", false, Modifier.isPublic(c.getModifiers()));
        }
        Bench.end();
    }

    private static String text(Method m) {
        StringBuilder text = new StringBuilder();
        text.append(m.getReturnType()).append(' ').append(m.getName()).append('(');
        Class<?>[] types = m.getParameterTypes();
        for (int i = 0; i < types.length; i++) {
            text.append(i > 0 ? ", " : "").append(types[i]);
        }
        return text.append(')').toString();
    }
}
