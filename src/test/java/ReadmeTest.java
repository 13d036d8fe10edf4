import java.io.IOException;
import java.lang.reflect.Method;
import java.nio.file.Files;
import java.nio.file.Path;
import java.util.Set;
import java.util.TreeSet;
import java.util.regex.Matcher;
import java.util.regex.Pattern;

/** Makes the calls of the example in README.md, and compares the answers told there. */
public final class ReadmeTest {
    private static final Pattern ROW = Pattern.compile("r\\.(\\w+)\\(([-\\d, ]*)\\); +// (-?\\d+|true|false)?\\b.*");

    public static void main(String[] args) throws Exception {
        MixfixReader r = new MixfixReader();
        Set<String> shown = new TreeSet<>();
        for (String line : example()) {
            Matcher row = ROW.matcher(line);
            Check.same("a call and its answer in: " + line, row.matches(), true);
            if (row.matches()) {
                Object answer = call(r, row.group(1), row.group(2));
                Check.same(line, String.valueOf(answer), String.valueOf(row.group(3)));
                shown.add(row.group(1));
            }
        }
        Check.same("methods shown in README.md", shown.size(), 13);
        Check.end();
    }

    /** The rows of the Java block behind the one that makes the object. */
    private static String[] example() throws IOException {
        String readme = Files.readString(Path.of("README.md"));
        String block = readme.substring(readme.indexOf("```java\n"));
        block = block.substring(block.indexOf("new MixfixReader();\n"), block.indexOf("\n```\n"));
        return block.substring(block.indexOf('\n') + 1).split("\n");
    }

    private static Object call(MixfixReader r, String name, String numbers) throws ReflectiveOperationException {
        String[] parts = numbers.isEmpty() ? new String[0] : numbers.split(", ");
        Class<?>[] types = new Class<?>[parts.length];
        Object[] values = new Object[parts.length];
        for (int i = 0; i < parts.length; i++) {
            types[i] = int.class;
            values[i] = Integer.valueOf(parts[i]);
        }
        Method method = MixfixReader.class.getMethod(name, types);
        return method.invoke(r, values);
    }
}
