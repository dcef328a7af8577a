import java.lang.reflect.Method;
import java.nio.file.Files;
import java.nio.file.Path;
import java.util.regex.Matcher;
import java.util.regex.Pattern;

/** Each call in README.md answers what stands behind it; runs from the project's folder. */
public final class ReadmeTest {
    private static final Pattern CALL = Pattern.compile("(?m)^x\\.(\\w+)\\(([^)]*)\\);\\s*// (-?\\d+)");
    private static final Check c = new Check();

    public static void main(String[] args) throws Exception {
        c.promise("README.md");
        String text = Files.readString(Path.of("README.md"));
        int from = text.indexOf("```java");
        String example = text.substring(from, text.indexOf("```", from + 3));
        CastWithVows x = new CastWithVows();
        Matcher m = CALL.matcher(example);
        int calls = 0;
        while (m.find()) {
            calls++;
            c.due(m.group(), ask(x, m.group(1), m.group(2)), Long.parseLong(m.group(3)));
        }
        c.due("calls that were found", calls, example.split("\nx\\.").length - 1);
        c.that("there is an example", calls > 10);
        c.end();
    }

    private static long ask(CastWithVows x, String name, String told) throws Exception {
        String[] words = told.isEmpty() ? new String[0] : told.split(", ");
        for (Method m : CastWithVows.class.getMethods()) {
            if (m.getName().equals(name) && m.getParameterCount() == words.length) {
                Object[] values = new Object[words.length];
                for (int i = 0; i < words.length; i++) {
                    long v = words[i].charAt(0) == '\'' ? words[i].charAt(1) : Long.parseLong(words[i]);
                    values[i] = m.getParameterTypes()[i] == long.class ? (Object) v : (Object) (int) v;
                }
                return ((Number) m.invoke(x, values)).longValue();
            }
        }
        return Long.MAX_VALUE;
    }
}
