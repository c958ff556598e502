import java.io.IOException;
import java.lang.reflect.InvocationTargetException;
import java.lang.reflect.Method;
import java.nio.file.Files;
import java.nio.file.Path;
import java.util.regex.Matcher;
import java.util.regex.Pattern;

/** The calls that README.md shows, asked in their order: each answers what is written behind it. */
public final class ReadmeTest {
    private static final Pattern CALL = Pattern.compile("x\\.(\\w+)\\(([-\\d, ]*)\\); +// (-?\\d+)\\b.*");
    private static final Pattern TYPED = Pattern.compile("for \\(char c : \"(.*)\"\\.toCharArray\\(\\)\\) x\\.type\\((\\d), c\\);.*");
    private static final Due due = new Due("ReadmeTest");
    private static NamedDwarf x;

    public static void main(String[] args) throws IOException, InvocationTargetException, IllegalAccessException {
        boolean shown = false;
        int blocks = 0;
        for (String line : Files.readAllLines(Path.of("README.md"))) {
            if (line.startsWith("```")) {
                shown = line.equals("```java");
                blocks += shown ? 1 : 0;
            } else if (shown) {
                ask(line);
            }
        }
        due.answer("blocks of calls", blocks, 2);
        due.end();
    }

    private static void ask(String line) throws InvocationTargetException, IllegalAccessException {
        Matcher call = CALL.matcher(line);
        Matcher typed = TYPED.matcher(line);
        if (line.equals("NamedDwarf x = new NamedDwarf();")) {
            x = new NamedDwarf();
        } else if (typed.matches()) {
            Scene.more(x, Integer.parseInt(typed.group(2)), typed.group(1));
        } else if (call.matches()) {
            due.answer(line, answerOf(call.group(1), call.group(2)), Long.parseLong(call.group(3)));
        } else {
            due.holds("a line that can be asked: " + line, false);
        }
    }

    private static long answerOf(String name, String told) throws InvocationTargetException, IllegalAccessException {
        String[] parts = told.isEmpty() ? new String[0] : told.split(", ");
        Object[] numbers = new Object[parts.length];
        for (int i = 0; i < parts.length; i++) {
            numbers[i] = Integer.valueOf(parts[i]);
        }
        for (Method method : NamedDwarf.class.getMethods()) {
            if (method.getName().equals(name) && method.getParameterCount() == numbers.length) {
                return ((Number) method.invoke(x, numbers)).longValue();
            }
        }
        throw new IllegalArgumentException("no such call: " + name);
    }
}
