import java.io.IOException;
import java.lang.reflect.Method;
import java.nio.charset.StandardCharsets;
import java.nio.file.Files;
import java.nio.file.Path;
import java.util.regex.Matcher;
import java.util.regex.Pattern;

/** README.md's example: each call on one object, with the answer that stands behind it. */
public final class ReadmeTest {
    private static final Pattern CALL = Pattern.compile("x\\.(\\w+)\\((.*?)\\); *// (-?\\d+)");

    public static void main(String[] args) throws IOException, ReflectiveOperationException {
        String readme = Files.readString(Path.of("README.md"), StandardCharsets.UTF_8);
        ClayPrints x = new ClayPrints();
        Matcher calls = CALL.matcher(readme);
        int asked = 0;
        while (calls.find()) {
            asked++;
            Check.due(calls.group(), Long.parseLong(calls.group(3)), ask(x, calls.group(1), calls.group(2).split(", ")));
        }
        Check.due("calls in README.md", (long) readme.split("\\bx\\.").length - 1, asked);
        Check.due("there are some", true, asked > 9);
        Check.close();
    }

    private static long ask(ClayPrints x, String name, String[] texts) throws ReflectiveOperationException {
        Class<?>[] types = new Class<?>[texts.length];
        Object[] values = new Object[texts.length];
        for (int i = 0; i < texts.length; i++) {
            types[i] = int.class;
            values[i] = texts[i].equals("ClayPrints.NONE") ? ClayPrints.NONE : Long.decode(texts[i]).intValue();
        }
        Method method = ClayPrints.class.getMethod(name, types);
        return ((Number) method.invoke(x, values)).longValue();
    }
}
