import java.lang.reflect.Method;
import java.lang.reflect.Modifier;
import java.nio.file.Files;
import java.nio.file.Path;
import java.util.Set;
import java.util.TreeSet;
import java.util.regex.Matcher;
import java.util.regex.Pattern;

/** What README.md says of the class is so: the answers of its example, and the names of the calls. */
public final class ReadmeTest {
    private static final Check c = new Check("ReadmeTest");
    private static final Pattern LINE = Pattern.compile("x\\.(\\w+)\\(([^)]*)\\); *// (-?\\d+): .*");

    public static void main(String[] args) throws Exception {
        String text = Files.readString(Path.of("README.md"));
        example(text);
        table(text);
        c.finish();
    }

    private static void example(String text) throws Exception {
        int start = text.indexOf("```java\n") + 8;
        String[] lines = text.substring(start, text.indexOf("```", start)).split("\n");
        c.due("the first line", lines[0], "WellsNotEven x = new WellsNotEven();");
        WellsNotEven x = new WellsNotEven();
        for (int i = 1; i < lines.length; i++) {
            Matcher m = LINE.matcher(lines[i]);
            c.due(lines[i] + " is a call with its answer", m.matches(), true);
            c.due(lines[i], answer(x, m.group(1), m.group(2)), m.group(3));
        }
    }

    private static String answer(WellsNotEven x, String name, String given) throws Exception {
        String[] written = given.isEmpty() ? new String[0] : given.split(", ");
        Class<?>[] types = new Class<?>[written.length];
        Object[] values = new Object[written.length];
        for (int i = 0; i < written.length; i++) {
            types[i] = int.class;
            values[i] = Integer.decode(written[i]);
        }
        return String.valueOf(WellsNotEven.class.getMethod(name, types).invoke(x, values));
    }

    private static void table(String text) {
        Set<String> named = new TreeSet<>();
        Matcher m = Pattern.compile("`(\\w+)`").matcher(text.substring(text.indexOf("\n| --- |"), text.indexOf("## Tests")));
        while (m.find()) {
            named.add(m.group(1));
        }
        Set<String> calls = new TreeSet<>();
        for (Method call : WellsNotEven.class.getDeclaredMethods()) {
            if (Modifier.isPublic(call.getModifiers())) {
                calls.add(call.getName());
            }
        }
        c.due("the calls that the table names", named.toString(), calls.toString());
    }
}
