import java.io.IOException;
import java.lang.reflect.InvocationTargetException;
import java.lang.reflect.Method;
import java.lang.reflect.Modifier;
import java.nio.file.Files;
import java.nio.file.Path;
import java.util.List;
import java.util.regex.Matcher;
import java.util.regex.Pattern;

/** README.md tells of every call, and the answers in its example are those that the program gives. */
public final class ReadmeTest {
    private static final Pattern MADE = Pattern.compile("CopperNets board = new CopperNets\\((\\d+)\\);.*");
    private static final Pattern CALL = Pattern.compile("board\\.(\\w+)\\(([-\\d, ]*)\\);\\s+// (-?\\w+).*");
    private static final Check check = new Check();

    public static void main(String[] args) throws IOException, ReflectiveOperationException {
        // .ci/run starts the tests in the project's own directory.
        String text = Files.readString(Path.of("README.md"));
        everyCallIsTold(text);
        exampleHolds(example(text));
        check.end();
    }

    private static void everyCallIsTold(String text) {
        for (Method m : CopperNets.class.getDeclaredMethods()) {
            if (Modifier.isPublic(m.getModifiers())) {
                check.due("the table has " + m.getName(), text.contains("| `" + m.getName() + "("), true);
                check.due("the example has " + m.getName(), text.contains("\nboard." + m.getName() + "("), true);
            }
        }
    }

    private static List<String> example(String text) {
        String[] parts = text.split("```(java)?\n");
        check.due("one example", parts.length, 3);
        return parts.length == 3 ? parts[1].lines().toList() : List.of();
    }

    private static void exampleHolds(List<String> lines) throws ReflectiveOperationException {
        CopperNets board = null;
        for (String line : lines) {
            Matcher made = MADE.matcher(line);
            Matcher call = CALL.matcher(line);
            if (made.matches()) {
                board = new CopperNets(Integer.parseInt(made.group(1)));
            } else if (board != null && call.matches()) {
                check.due(line, answer(board, call.group(1), call.group(2)), call.group(3));
            } else {
                check.due(line, "no call", "a call");
            }
        }
    }

    private static Object answer(CopperNets board, String name, String numbers) throws ReflectiveOperationException {
        for (Method m : CopperNets.class.getDeclaredMethods()) {
            if (m.getName().equals(name)) {
                try {
                    return m.invoke(board, arguments(m.getParameterTypes(), numbers));
                } catch (InvocationTargetException e) {
                    return "throws." + e.getCause().getClass().getSimpleName();
                }
            }
        }
        return "no such call";
    }

    private static Object[] arguments(Class<?>[] types, String numbers) {
        Object[] made = new Object[types.length];
        String[] texts = numbers.split(", ");
        for (int i = 0; i < types.length; i++) {
            long number = Long.parseLong(texts[i]);
            // An if, as ?: would make a long of both.
            if (types[i] == int.class) {
                made[i] = (int) number;
            } else {
                made[i] = number;
            }
        }
        return made;
    }
}
