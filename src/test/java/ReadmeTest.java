import java.io.IOException;
import java.lang.reflect.InvocationTargetException;
import java.lang.reflect.Method;
import java.lang.reflect.Modifier;
import java.nio.file.Files;
import java.nio.file.Path;
import java.util.regex.Matcher;
import java.util.regex.Pattern;

/** What README.md shows of the class: the example's answers, and a row of the table for every call. */
public final class ReadmeTest {
    private static final Due due = new Due();
    private static final Pattern LINE = Pattern.compile("^x\\.(\\w+)\\(([^)]*)\\);\\s*// (-?\\d+)(:.*)?$", Pattern.MULTILINE);
    private static final Pattern CALL = Pattern.compile("^x\\.", Pattern.MULTILINE);

    public static void main(String[] args) throws IOException, ReflectiveOperationException {
        String text = Files.readString(Path.of("README.md"));
        example(text);
        table(text);
        due.end();
    }

    private static void example(String text) throws ReflectiveOperationException {
        HangerRail x = new HangerRail();
        long lines = 0;
        Matcher line = LINE.matcher(text);
        while (line.find()) {
            lines++;
            due.is(line.group().replaceAll(" +", " "), answer(x, line.group(1), line.group(2)), Long.parseLong(line.group(3)));
        }
        due.is("each call of the example tells its answer", lines, CALL.matcher(text).results().count());
        due.is("the example is there", lines > 30 ? 1 : 0, 1);
    }

    private static long answer(HangerRail x, String name, String told) throws IllegalAccessException, InvocationTargetException {
        Method call = named(name);
        String[] numbers = told.isEmpty() ? new String[0] : told.split(", ");
        Object[] values = new Object[numbers.length];
        for (int i = 0; i < numbers.length; i++) {
            long number = Long.parseLong(numbers[i]);
            values[i] = call.getParameterTypes()[i] == long.class ? (Object) number : (Object) (int) number;
        }
        return ((Number) call.invoke(x, values)).longValue();
    }

    private static Method named(String name) {
        for (Method m : HangerRail.class.getMethods()) {
            if (m.getName().equals(name)) {
                return m;
            }
        }
        throw new IllegalStateException("README.md calls " + name + ", which is not in the face");
    }

    private static void table(String text) {
        int calls = 0;
        for (Method m : HangerRail.class.getDeclaredMethods()) {
            if (Modifier.isPublic(m.getModifiers())) {
                calls++;
                Matcher row = Pattern.compile("^\\| `" + m.getName() + "\\(([^)]*)\\)` \\|", Pattern.MULTILINE).matcher(text);
                boolean there = row.find();
                due.is("a row for " + m.getName(), there ? 1 : 0, 1);
                int told = there && !row.group(1).isEmpty() ? row.group(1).split(", ").length : 0;
                due.is("what " + m.getName() + " takes", told, m.getParameterCount());
            }
        }
        due.is("rows and calls", Pattern.compile("^\\| `", Pattern.MULTILINE).matcher(text).results().count(), calls);
    }
}
