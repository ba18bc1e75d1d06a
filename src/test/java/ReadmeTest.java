import java.lang.reflect.Method;
import java.lang.reflect.Modifier;
import java.nio.file.Files;
import java.nio.file.Path;
import java.util.Set;
import java.util.TreeSet;
import java.util.regex.Matcher;
import java.util.regex.Pattern;

/** The calls that README.md shows, made on one object in their order: each answers what stands behind it. */
public final class ReadmeTest {
    private static final Check CHECK = new Check("ReadmeTest");
    private static final Pattern CALL = Pattern.compile("d\\.(\\w+)\\(([^)]*)\\);\\s*// (-?\\d+)(:.*)?");
    private static final int MOST_CALLS = 512;

    public static void main(String[] args) throws Exception {
        String page = Files.readString(Path.of("README.md"));
        int from = page.indexOf("```java\n");
        int to = page.indexOf("\n```\n", from);
        CHECK.holds("README.md has a piece of Java", from >= 0 && to > from);
        if (from >= 0 && to > from) {
            calls(page.substring(from + "```java\n".length(), to).split("\n"));
        }
        CHECK.end();
    }

    private static void calls(String[] lines) throws Exception {
        DrawnAreas d = new DrawnAreas();
        Set<String> shown = new TreeSet<>();
        int made = 0;
        for (String line : lines) {
            if (!line.startsWith("d.")) {
                continue;
            }
            Matcher m = CALL.matcher(line);
            CHECK.holds("can be read: " + line, m.matches());
            if (m.matches()) {
                shown.add(m.group(1));
                CHECK.due(line, answer(d, m.group(1), m.group(2).split(", ")), Long.parseLong(m.group(3)));
                made++;
            }
        }
        CHECK.holds("an object is used for at most 512 calls", made <= MOST_CALLS);
        for (Method m : DrawnAreas.class.getDeclaredMethods()) {
            if (Modifier.isPublic(m.getModifiers())) {
                CHECK.holds(m.getName() + " is shown", shown.contains(m.getName()));
            }
        }
    }

    private static long answer(DrawnAreas d, String name, String[] numbers) throws Exception {
        for (Method m : DrawnAreas.class.getDeclaredMethods()) {
            if (m.getName().equals(name) && m.getParameterCount() == numbers.length) {
                Object[] given = new Object[numbers.length];
                for (int k = 0; k < given.length; k++) {
                    given[k] = m.getParameterTypes()[k] == boolean.class
                        ? (Object) Boolean.valueOf(numbers[k])
                        : (Object) Integer.valueOf(numbers[k]);
                }
                return ((Number) m.invoke(d, given)).longValue();
            }
        }
        throw new IllegalStateException("no such call: " + name);
    }
}
