import java.lang.reflect.Method;
import java.lang.reflect.Modifier;
import java.nio.file.Files;
import java.nio.file.Path;
import java.util.regex.Matcher;
import java.util.regex.Pattern;

/** Whether the answers that README.md shows are those that the class gives. */
public final class ReadmeTest extends Tables {
    private static final Pattern MADE = Pattern.compile("RouteStrides table = new RouteStrides\\(\\);");
    private static final Pattern CALL = Pattern.compile("table\\.(\\w+)\\((.*?)\\); +// (-?\\d+): .+");

    public static void main(String[] args) throws Exception {
        String page = Files.readString(Path.of("README.md"));
        about = "README.md";
        examples(page);
        everyCall(page);
        finish("ReadmeTest");
    }

    private static void examples(String page) throws Exception {
        Matcher block = Pattern.compile("(?s)```java\n(.*?)```").matcher(page);
        int blocks = 0;
        for (; block.find(); blocks++) {
            RouteStrides table = null;
            for (String line : block.group(1).split("\n")) {
                Matcher call = CALL.matcher(line);
                if (MADE.matcher(line).matches()) {
                    table = new RouteStrides();
                } else if (table != null && call.matches()) {
                    due(line, answer(table, call.group(1), call.group(2)), Long.parseLong(call.group(3)));
                } else {
                    due("a line that is no call: " + line, 0, 1);
                }
            }
        }
        due("examples", blocks, 2);
    }

    private static long answer(RouteStrides table, String name, String told) throws Exception {
        String[] numbers = told.isEmpty() ? new String[0] : told.split(", ");
        for (Method m : RouteStrides.class.getMethods()) {
            if (m.getName().equals(name) && m.getParameterCount() == numbers.length) {
                Object[] values = new Object[numbers.length];
                for (int i = 0; i < values.length; i++) {
                    long number = Long.decode(numbers[i]);
                    values[i] = m.getParameterTypes()[i] == long.class ? (Object) number : (Object) (int) number;
                }
                return ((Number) m.invoke(table, values)).longValue();
            }
        }
        throw new IllegalArgumentException("no call " + name + "(" + told + ")");
    }

    private static void everyCall(String page) {
        for (Method m : RouteStrides.class.getDeclaredMethods()) {
            if (Modifier.isPublic(m.getModifiers())) {
                due("`" + m.getName() + "` stands on the page", page.contains("`" + m.getName() + "`") ? 1 : 0, 1);
            }
        }
    }
}
