import java.io.IOException;
import java.lang.reflect.Method;
import java.lang.reflect.Modifier;
import java.nio.file.Files;
import java.nio.file.Path;
import java.util.ArrayList;
import java.util.List;
import java.util.Set;
import java.util.TreeSet;

/** README.md keeps true: its tables and examples are run, and every call has its row. */
public final class ReadmeTest {
    private static final Set<String> QUESTIONS =
            Set.of("compare", "sign", "precision", "scale", "digit", "type", "write", "characterAt");

    private ReadmeTest() {}

    public static void main(String[] args) throws IOException, ReflectiveOperationException {
        List<String> lines = Files.readAllLines(Path.of("README.md"));
        calls(table(lines, "call"));
        roundings(table(lines, "rounding"));
        layouts(table(lines, "how"));
        examples();
        Bench.end();
    }

    /** The table's rows as cells without backquotes, its heading first. */
    private static List<String[]> table(List<String> lines, String heading) {
        List<String[]> rows = new ArrayList<>();
        boolean inside = false;
        for (String line : lines) {
            inside = inside ? line.startsWith("|") : line.startsWith("| " + heading + " |");
            if (inside && !line.startsWith("| ---")) {
                rows.add(line.substring(2, line.length() - 2).replace("`", "").split(" \\| "));
            }
        }
        Bench.due("a table of " + heading, true, rows.size() > 1);
        return rows;
    }

    private static void calls(List<String[]> rows) throws ReflectiveOperationException {
        TensMill x = Bench.mill("12.50", "-4");
        Set<String> told = new TreeSet<>();
        for (String[] row : rows.subList(1, rows.size())) {
            Method method = method(name(row[0]));
            told.add(method.getName());
            Bench.due("parameters of " + row[0], method.getParameterCount(), arguments(row[0]).length);
            Bench.due(row[2], row[3], given(x, method, arguments(row[2])));
        }
        Set<String> due = new TreeSet<>();
        for (Method method : TensMill.class.getDeclaredMethods()) {
            if (Modifier.isPublic(method.getModifiers())) {
                due.add(method.getName());
            }
        }
        Bench.due("calls that README.md tells of", due, told);
    }

    private static String name(String call) {
        return call.substring(0, call.indexOf('('));
    }

    private static String[] arguments(String call) {
        return call.substring(call.indexOf('(') + 1, call.indexOf(')')).split(", ");
    }

    private static Method method(String name) throws ReflectiveOperationException {
        for (Method method : TensMill.class.getMethods()) {
            if (method.getName().equals(name) && method.getDeclaringClass() == TensMill.class) {
                return method;
            }
        }
        throw new NoSuchMethodException(name);
    }

    private static String given(TensMill x, Method method, String[] arguments)
            throws ReflectiveOperationException {
        Class<?>[] types = method.getParameterTypes();
        Object[] values = new Object[types.length];
        for (int i = 0; i < types.length; i++) {
            values[i] = value(types[i], arguments[i]);
        }
        Object answer = method.invoke(x, values);
        if (QUESTIONS.contains(method.getName())) {
            return answer.toString();
        }
        return answer.equals(true) ? Bench.written(x, (Integer) values[0], 0) : "refused";
    }

    private static Object value(Class<?> type, String text) {
        if (type == boolean.class) {
            return Boolean.valueOf(text);
        }
        if (type == long.class) {
            return Long.decode(text);
        }
        return Integer.valueOf(text);
    }

    private static void roundings(List<String[]> rows) {
        Bench.due("how many roundings", 8, rows.size() - 1);
        for (String[] row : rows.subList(1, rows.size())) {
            for (int i = 2; i < row.length; i++) {
                TensMill x = Bench.mill(rows.get(0)[i]);
                boolean done = x.rescale(1, 0, 0, Integer.parseInt(row[0]));
                String got = done ? Bench.written(x, 1, 0) : "refused";
                Bench.due(rows.get(0)[i] + " rounded as " + row[0], row[i], got);
            }
        }
    }

    private static void layouts(List<String[]> rows) {
        Bench.due("how many layouts", 3, rows.size() - 1);
        for (String[] row : rows.subList(1, rows.size())) {
            for (int i = 2; i < row.length; i++) {
                TensMill x = Bench.mill(rows.get(0)[i]);
                String got = Bench.written(x, 0, Integer.parseInt(row[0]));
                Bench.due(rows.get(0)[i] + " laid out as " + row[0], row[i], got);
            }
        }
    }

    /** The two pieces of code under "Use", as they stand there. */
    private static void examples() {
        TensMill x = new TensMill();
        x.put(0, 1, 0);
        x.put(1, 8, 0);
        x.ratio(2, 0, 1, 0, 0);
        Bench.due("its length", 5, x.write(2, 0));
        Bench.due("its characters", "0.125", Bench.laid(x));
        x.type(0x2D31322E3545L);
        x.type(0x3330L);
        x.read(3);
        Bench.due("what was typed", "-125@-29", Bench.show(x, 3));
    }
}
