import java.lang.reflect.InvocationTargetException;
import java.lang.reflect.Method;
import java.nio.file.Files;
import java.nio.file.Path;
import java.util.List;
import java.util.Set;
import java.util.TreeSet;
import java.util.regex.Matcher;
import java.util.regex.Pattern;

/** What README.md shows is so: its example's answers, the lines of its town, the calls it names. */
public final class ReadmeTest {
    private static final Pattern CALL = Pattern.compile("x\\.(\\w+)\\(([^)]*)\\);\\s*// (throws )?(-?\\w+).*");
    private static final Pattern LINE = Pattern.compile("\\| `([^`]*;)` \\|.*");

    public static void main(String[] args) throws Exception {
        List<String> readme = Files.readAllLines(Path.of("README.md"));
        example(readme);
        lines(readme);
        calls(readme);
        Check.end("ReadmeTest");
    }

    private static void example(List<String> readme) throws Exception {
        MovingNames x = new MovingNames();
        int many = 0;
        for (String line : readme) {
            Matcher call = CALL.matcher(line);
            if (!call.matches()) continue;
            many++;
            String got = answer(x, call.group(1), call.group(2));
            if (!got.isEmpty()) Check.dueText(line, got, call.group(4));
        }
        Check.due("calls in the example of README.md", many, 16);
    }

    /** What a call answers: nothing if it is void, the name of what it throws if it does. */
    private static String answer(MovingNames x, String name, String arguments) throws Exception {
        String[] texts = arguments.isEmpty() ? new String[0] : arguments.split(", *");
        Method method = methodNamed(name);
        Object[] values = new Object[texts.length];
        for (int i = 0; i < texts.length; i++) {
            long value = Long.decode(texts[i]);
            boolean wide = method.getParameterTypes()[i] == long.class;
            values[i] = wide ? (Object) value : (Object) (int) value;
        }
        try {
            Object got = method.invoke(x, values);
            return got == null ? "" : got.toString();
        } catch (InvocationTargetException e) {
            return e.getCause().getClass().getSimpleName();
        }
    }

    private static Method methodNamed(String name) {
        for (Method method : MovingNames.class.getMethods()) {
            if (method.getName().equals(name)) return method;
        }
        throw new IllegalArgumentException("README.md names no call of the class: " + name);
    }

    private static void lines(List<String> readme) {
        StringBuilder text = new StringBuilder("streets 4;");
        int many = 1;
        for (String row : readme) {
            Matcher line = LINE.matcher(row);
            if (!line.matches()) continue;
            text.append(line.group(1));
            many++;
        }
        Check.due("lines in the table of README.md", many, 7);
        Check.dueLines(text.toString(), many);
    }

    /** Every call of the class is in the table of calls, and nothing else. */
    private static void calls(List<String> readme) {
        Set<String> told = new TreeSet<>();
        for (String row : readme) {
            if (!row.matches("\\| [a-z, ]+ \\|( `\\w+`)+ \\|")) continue;
            Matcher name = Pattern.compile("`(\\w+)`").matcher(row);
            while (name.find()) told.add(name.group(1));
        }
        Set<String> there = new TreeSet<>();
        for (Method method : MovingNames.class.getDeclaredMethods()) {
            if (java.lang.reflect.Modifier.isPublic(method.getModifiers())) there.add(method.getName());
        }
        Check.dueText("calls in the table of README.md", told.toString(), there.toString());
    }
}
