import java.io.IOException;
import java.lang.reflect.Method;
import java.lang.reflect.Modifier;
import java.nio.file.Files;
import java.nio.file.Path;
import java.util.Arrays;
import java.util.Set;
import java.util.TreeSet;
import java.util.regex.Matcher;
import java.util.regex.Pattern;

/** README.md tells no answer that the class doesn't give, and leaves no call out. */
public final class ReadmeTest {
    private static final Pattern MADE = Pattern.compile("CowContainer c = new CowContainer\\((\\d+)\\);");
    private static final Pattern EXAMPLE = Pattern.compile("c\\.(\\w+)\\(([-\\d, ]*)\\); +// (-?\\d+)\\b.*");
    private static final Pattern ROW = Pattern.compile("(?m)^\\| `(\\w+)\\(");

    public static void main(String[] args) throws IOException, ReflectiveOperationException {
        String text = Files.readString(Path.of("README.md"));
        example(text);
        everyCall(text);
        Due.end();
    }

    private static void example(String text) throws ReflectiveOperationException {
        Matcher made = MADE.matcher(text);
        Due.holds("README.md makes a container", made.find());
        CowContainer c = new CowContainer(Integer.parseInt(made.group(1)));
        int lines = 0;
        for (String line : text.split("\n")) {
            Matcher told = EXAMPLE.matcher(line);
            if (line.startsWith("c.")) {
                Due.holds("'" + line + "' tells an answer", told.matches());
                Due.same(line, answer(c, told.group(1), told.group(2)), Long.parseLong(told.group(3)));
                lines++;
            }
        }
        Due.holds("README.md has an example", lines > 0);
    }

    private static long answer(CowContainer c, String name, String listed) throws ReflectiveOperationException {
        Object[] arguments = listed.isEmpty() ? new Object[0]
            : Arrays.stream(listed.split(", ")).map(Integer::valueOf).toArray();
        Class<?>[] types = new Class<?>[arguments.length];
        Arrays.fill(types, int.class);
        Number answer = (Number) CowContainer.class.getMethod(name, types).invoke(c, arguments);
        return answer.longValue();
    }

    private static void everyCall(String text) {
        Set<String> told = new TreeSet<>();
        Matcher row = ROW.matcher(text);
        while (row.find()) {
            told.add(row.group(1));
        }
        Set<String> there = new TreeSet<>();
        for (Method method : CowContainer.class.getDeclaredMethods()) {
            if (Modifier.isPublic(method.getModifiers())) {
                there.add(method.getName());
            }
        }
        Due.holds("README.md tells of " + there + ", not of " + told, told.equals(there));
    }
}
