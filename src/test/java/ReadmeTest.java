import java.io.IOException;
import java.lang.reflect.Method;
import java.lang.reflect.Modifier;
import java.nio.file.Files;
import java.nio.file.Path;
import java.util.List;
import java.util.regex.Matcher;
import java.util.regex.Pattern;

/** README.md tells what is so: its examples answer as their remarks begin, and its table has every call. */
public final class ReadmeTest {
    private static final Check check = new Check("ReadmeTest");
    private static final Pattern EXAMPLE =
        Pattern.compile("x\\.(\\w+)\\((.*)\\); +// (-?\\d+|GAP less \\d|[A-Z]+)\\b.*");

    public static void main(String[] args) throws IOException, ReflectiveOperationException {
        List<String> lines = Files.readAllLines(Path.of("README.md"));
        examples(lines);
        table(String.join("\n", lines));
        check.end();
    }

    private static void examples(List<String> lines) throws ReflectiveOperationException {
        RoundRows x = null;
        boolean inside = false;
        int calls = 0;
        for (String line : lines) {
            if (line.startsWith("```")) {
                inside = line.equals("```java");
            } else if (inside && line.equals("RoundRows x = new RoundRows();")) {
                x = new RoundRows();
            } else if (inside) {
                Matcher example = EXAMPLE.matcher(line);
                boolean fits = example.matches();
                check.holds("an example with its answer: " + line, fits && x != null);
                if (fits && x != null) {
                    check.due(line, answerOf(x, example.group(1), example.group(2)), number(example.group(3)));
                    calls++;
                }
            }
        }
        check.holds("examples were seen", calls > 40);
    }

    private static long answerOf(RoundRows x, String name, String told) throws ReflectiveOperationException {
        Method method = methodNamed(name);
        String[] texts = told.isEmpty() ? new String[0] : told.split(", ");
        Object[] arguments = new Object[texts.length];
        for (int i = 0; i < texts.length; i++) {
            boolean is = method.getParameterTypes()[i] == boolean.class;
            arguments[i] = is ? (Object) Boolean.valueOf(texts[i]) : (Object) (int) number(texts[i]);
        }
        return ((Number) method.invoke(x, arguments)).longValue();
    }

    private static Method methodNamed(String name) throws NoSuchMethodException {
        for (Method method : RoundRows.class.getDeclaredMethods()) {
            if (method.getName().equals(name)) {
                return method;
            }
        }
        throw new NoSuchMethodException(name);
    }

    private static long number(String text) throws ReflectiveOperationException {
        if (text.startsWith("GAP less ")) {
            return RoundRows.GAP - Long.parseLong(text.substring(9));
        }
        if (text.startsWith("'")) {
            return text.charAt(1);
        }
        boolean named = Character.isLetter(text.charAt(0));
        return named ? ((Number) RoundRows.class.getField(text).get(null)).longValue() : Long.parseLong(text);
    }

    private static void table(String readme) {
        for (Method method : RoundRows.class.getDeclaredMethods()) {
            if (Modifier.isPublic(method.getModifiers())) {
                boolean has = Pattern.compile("\\|.*`" + method.getName() + "\\(.*\\|").matcher(readme).find();
                check.holds("the table has " + method.getName(), has);
            }
        }
    }
}
