import java.io.IOException;
import java.lang.reflect.Method;
import java.nio.file.Files;
import java.nio.file.Path;
import java.util.HashSet;
import java.util.Set;
import java.util.regex.Matcher;
import java.util.regex.Pattern;

/** README.md shows what is so: its example's calls answer as their comments say, and it names every call. */
public final class ReadmeTest {
    private static final Answers is = new Answers();
    private static final Pattern TYPED = Pattern.compile("for \\(char c : \"(.*)\"\\.toCharArray\\(\\)\\) city\\.type\\((\\d), c\\);.*");
    private static final Pattern CALL = Pattern.compile("city\\.(\\w+)\\(([^)]*)\\); *// (-?\\d+): .*");

    public static void main(String[] args) throws IOException, ReflectiveOperationException {
        String readme = Files.readString(Path.of("README.md"));
        example(readme);
        names(readme);
        is.end();
    }

    private static void example(String readme) throws ReflectiveOperationException {
        int from = readme.indexOf("```java\n");
        String[] lines = readme.substring(from + 8, readme.indexOf("```", from + 8)).split("\n");
        is.holds("the example makes an object", lines[0].startsWith("StringReels city = new StringReels();"));
        StringReels city = new StringReels();
        for (int i = 1; i < lines.length; i++) {
            Matcher typed = TYPED.matcher(lines[i]);
            Matcher call = CALL.matcher(lines[i]);
            if (typed.matches()) {
                Answers.type(city, Integer.parseInt(typed.group(2)), typed.group(1));
            } else if (call.matches()) {
                is.due(lines[i], answer(city, call.group(1), call.group(2)), Long.parseLong(call.group(3)));
            } else {
                is.holds("a line of the example can be read: " + lines[i], false);
            }
        }
    }

    private static long answer(StringReels city, String name, String numbers) throws ReflectiveOperationException {
        String[] parts = numbers.isEmpty() ? new String[0] : numbers.split(", ");
        Object[] values = new Object[parts.length];
        for (int i = 0; i < parts.length; i++) {
            values[i] = parts[i].equals("StringReels.NONE") ? StringReels.NONE : Integer.parseInt(parts[i]);
        }
        for (Method method : StringReels.class.getDeclaredMethods()) {
            if (method.getName().equals(name)) return ((Number) method.invoke(city, values)).longValue();
        }
        return StringReels.BAD;
    }

    private static void names(String readme) {
        Set<String> told = new HashSet<>();
        Matcher m = Pattern.compile("`(\\w+)`").matcher(readme);
        while (m.find()) told.add(m.group(1));
        for (Method method : StringReels.class.getDeclaredMethods()) {
            if (java.lang.reflect.Modifier.isPublic(method.getModifiers())) {
                is.holds("README.md names " + method.getName(), told.contains(method.getName()));
            }
        }
    }
}
