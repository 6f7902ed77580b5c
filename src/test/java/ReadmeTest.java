import java.lang.reflect.Method;
import java.nio.file.Files;
import java.nio.file.Path;
import java.util.regex.Matcher;
import java.util.regex.Pattern;

/** Runs the example of README.md line by line: each call that has a comment answers the number it begins with. */
public final class ReadmeTest {
    private static final Pattern MAKE = Pattern.compile("FeltGlass glass = new FeltGlass\\(\\);.*");
    private static final Pattern TEXT = Pattern.compile("for \\(char c : \"(.*)\"\\.toCharArray\\(\\)\\).*");
    private static final Pattern LETTER = Pattern.compile("glass\\.letter\\(c\\);.*");
    private static final Pattern CALL = Pattern.compile("glass\\.(\\w+)\\(([-0-9, ]*)\\); +// (-?\\d+):.*");

    public static void main(String[] args) throws Exception {
        Checks.about("README.md");
        FeltGlass glass = null;
        String text = "";
        int calls = 0;
        for (String line : example()) {
            Matcher typed = TEXT.matcher(line), call = CALL.matcher(line);
            if (MAKE.matcher(line).matches()) {
                glass = new FeltGlass();
            } else if (typed.matches()) {
                text = typed.group(1);
            } else if (LETTER.matcher(line).matches()) {
                Checks.type(glass, text);
            } else if (call.matches()) {
                Checks.due(line, answer(glass, call.group(1), call.group(2)), Long.parseLong(call.group(3)));
                calls++;
            } else {
                Checks.holds("that this line is understood: " + line, line.isEmpty());
            }
        }
        Checks.holds("calls with answers", calls > 0);
        everyMethodIsNamed();
        Checks.end();
    }

    private static String[] example() throws Exception {
        String readme = Files.readString(Path.of("README.md"));
        int from = readme.indexOf("```java\n"), to = readme.indexOf("\n```\n", from);
        Checks.holds("an example", from >= 0 && to > from);
        return from >= 0 && to > from ? readme.substring(from + 8, to).replaceAll("(?m)^ +", "").split("\n")
            : new String[0];
    }

    private static long answer(FeltGlass glass, String name, String arguments) throws Exception {
        String[] numbers = arguments.isBlank() ? new String[0] : arguments.split(", ");
        Class<?>[] types = new Class<?>[numbers.length];
        Object[] values = new Object[numbers.length];
        for (int i = 0; i < numbers.length; i++) {
            types[i] = int.class;
            values[i] = Integer.valueOf(numbers[i]);
        }
        Method method = FeltGlass.class.getMethod(name, types);
        return ((Number) method.invoke(glass, values)).longValue();
    }

    private static void everyMethodIsNamed() throws Exception {
        String readme = Files.readString(Path.of("README.md"));
        for (Method method : FeltGlass.class.getDeclaredMethods()) {
            if ((method.getModifiers() & java.lang.reflect.Modifier.PUBLIC) == 0) continue;
            Checks.holds("that " + method.getName() + "() is named", readme.contains("`" + method.getName() + "("));
        }
    }
}
