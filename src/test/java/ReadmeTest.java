import java.io.IOException;
import java.lang.reflect.Method;
import java.nio.file.Files;
import java.nio.file.Path;
import java.util.regex.Matcher;
import java.util.regex.Pattern;

/** README.md: its table has the whole face, and the calls of its example answer what it says. */
public final class ReadmeTest {
    private static final Due D = new Due();
    private static final Pattern CALL = Pattern.compile("(?m)^x\\.(\\w+)\\((.*)\\);\\s*// (-?\\d+)\\b");

    public static void main(String[] args) throws IOException, ReflectiveOperationException {
        String readme = Files.readString(Path.of("README.md"));
        table(readme);
        example(readme);
        D.due("it tells how to run the tests (1 or 0)", readme.contains(".ci/run") ? 1 : 0, 1);
        D.due("it tells what BAD says (1 or 0)", readme.contains("`ActSurgery.BAD` (-2)") ? 1 : 0, 1);
        D.due("it tells what NONE says (1 or 0)", readme.contains("`ActSurgery.NONE` (-1)") ? 1 : 0, 1);
        D.end();
    }

    private static void table(String readme) {
        D.due("the constructor (1 or 0)", readme.contains("| `new ActSurgery()` |") ? 1 : 0, 1);
        for (Method m : ActSurgery.class.getDeclaredMethods()) {
            if (java.lang.reflect.Modifier.isPublic(m.getModifiers())) {
                StringBuilder types = new StringBuilder();
                for (Class<?> type : m.getParameterTypes()) {
                    types.append(types.length() == 0 ? "" : ", ").append(type.getName()).append(" \\w+");
                }
                Pattern row = Pattern.compile("\\| `" + m.getName() + "\\(" + types + "\\)` \\|");
                D.due("a row of the table for " + m, row.matcher(readme).find() ? 1 : 0, 1);
            }
        }
    }

    private static void example(String readme) throws ReflectiveOperationException {
        ActSurgery x = new ActSurgery();
        Matcher call = CALL.matcher(readme);
        int calls = 0;
        while (call.find()) {
            calls++;
            String[] words = call.group(2).isEmpty() ? new String[0] : call.group(2).split(", ");
            D.due(call.group(), answer(x, call.group(1), words), Integer.parseInt(call.group(3)));
        }
        int lines = readme.split("\nx\\.", -1).length - 1;
        D.due("lines of the example that tell an answer", calls, lines);
        D.due("an example (1 or 0)", calls > 0 ? 1 : 0, 1);
    }

    private static int answer(ActSurgery x, String name, String[] words) throws ReflectiveOperationException {
        for (Method m : ActSurgery.class.getMethods()) {
            if (m.getName().equals(name) && m.getParameterCount() == words.length) {
                Object[] numbers = new Object[words.length];
                for (int i = 0; i < words.length; i++) {
                    numbers[i] = m.getParameterTypes()[i] == boolean.class ? (Object) Boolean.valueOf(words[i])
                        : (Object) number(words[i]);
                }
                return (Integer) m.invoke(x, numbers);
            }
        }
        throw new NoSuchMethodException(name);
    }

    private static Integer number(String word) {
        return word.startsWith("0b") ? Integer.valueOf(word.substring(2), 2) : Integer.valueOf(word);
    }
}
