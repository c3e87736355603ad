import java.io.IOException;
import java.lang.reflect.Method;
import java.nio.file.Files;
import java.nio.file.Path;
import java.util.HashMap;
import java.util.Map;
import java.util.regex.Matcher;
import java.util.regex.Pattern;

/** The example of README.md answers what stands beside it; .ci/run starts it in the project's folder. */
public final class ReadmeTest {
    private static final Pattern EXAMPLE = Pattern.compile("(?s)```java\n(.*?)```");
    private static final Pattern MADE = Pattern.compile("TentativeLog log = new TentativeLog\\((\\d+)\\);.*");
    private static final Pattern CALL =
            Pattern.compile("(?:int (\\w+) = )?log\\.(\\w+)\\(([^)]*)\\); +// ([\\w.-]+?)(?::.*)?");
    private static final Due due = new Due();
    private static final Map<String, Integer> named = new HashMap<>();

    public static void main(String[] args) throws IOException, ReflectiveOperationException {
        Matcher example = EXAMPLE.matcher(Files.readString(Path.of("README.md")));
        due.is("README.md has an example", example.find() ? 1 : 0, 1);
        String[] lines = example.group(1).split("\n");
        Matcher made = MADE.matcher(lines[0]);
        due.is("its first line makes an object", made.matches() ? 1 : 0, 1);
        TentativeLog log = new TentativeLog(Integer.parseInt(made.group(1)));
        for (int i = 1; i < lines.length; i++) {
            line(log, lines[i]);
        }
        due.end();
    }

    private static void line(TentativeLog log, String line) throws ReflectiveOperationException {
        Matcher call = CALL.matcher(line);
        due.is("a call with its answer: " + line, call.matches() ? 1 : 0, 1);
        String[] words = call.group(3).split(", ");
        Object[] values = new Object[words.length];
        Class<?>[] types = new Class<?>[words.length];
        for (int i = 0; i < words.length; i++) {
            values[i] = number(words[i]);
            types[i] = int.class;
        }
        Method method = TentativeLog.class.getMethod(call.group(2), types);
        int got = (Integer) method.invoke(log, values);
        due.is(line, got, number(call.group(4)));
        if (call.group(1) != null) {
            named.put(call.group(1), got);
        }
    }

    private static int number(String word) throws ReflectiveOperationException {
        if (named.containsKey(word)) {
            return named.get(word);
        }
        if (word.startsWith("TentativeLog.")) {
            return TentativeLog.class.getField(word.substring("TentativeLog.".length())).getInt(null);
        }
        return Integer.parseInt(word);
    }
}
