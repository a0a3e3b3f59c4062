import java.io.IOException;
import java.lang.reflect.Method;
import java.lang.reflect.Modifier;
import java.nio.file.Files;
import java.nio.file.Path;
import java.util.Set;
import java.util.TreeSet;
import java.util.regex.Matcher;
import java.util.regex.Pattern;

/** The example in README.md: each line answers what it says, and every call is in it. */
public final class ReadmeTests {
    private static final String BEGIN = "PairMatching x = new PairMatching();\n";
    private static final String END = "```";
    private static final Pattern LINE = Pattern.compile("x\\.(\\w+)\\((.*)\\); +// (-?\\d+)(: .*)?");

    private final Checks checks = new Checks();
    private final PairMatching x = new PairMatching();
    private final Set<String> called = new TreeSet<>();

    public static void main(String[] args) throws IOException, ReflectiveOperationException {
        ReadmeTests tests = new ReadmeTests();
        String text = Files.readString(Path.of("README.md"));
        int begin = text.indexOf(BEGIN);
        tests.checks.isTrue("the example begins with a new object", begin >= 0);
        int end = text.indexOf(END, begin);
        for (String line : text.substring(begin + BEGIN.length(), end).split("\n")) {
            tests.oneLine(line);
        }
        tests.everyCall(text.substring(end));
        tests.checks.end();
    }

    private void oneLine(String line) throws ReflectiveOperationException {
        if (line.isEmpty()) {
            return;
        }
        Matcher matcher = LINE.matcher(line);
        if (!matcher.matches()) {
            checks.isTrue("a call with its answer: " + line, false);
            return;
        }
        called.add(matcher.group(1));
        checks.due(line, answer(matcher.group(1), matcher.group(2)), Long.parseLong(matcher.group(3)));
    }

    private long answer(String name, String numbers) throws ReflectiveOperationException {
        String[] texts = numbers.isEmpty() ? new String[0] : numbers.split(", ");
        Class<?>[] types = new Class<?>[texts.length];
        Object[] values = new Object[texts.length];
        for (int i = 0; i < texts.length; i++) {
            types[i] = int.class;
            values[i] = numberOf(texts[i]);
        }
        return ((Number) PairMatching.class.getMethod(name, types).invoke(x, values)).longValue();
    }

    private static int numberOf(String text) {
        return text.startsWith("0b") ? Integer.parseInt(text.substring(2), 2) : Integer.parseInt(text);
    }

    private void everyCall(String table) {
        for (Method method : PairMatching.class.getDeclaredMethods()) {
            if (Modifier.isPublic(method.getModifiers())) {
                String name = method.getName();
                checks.isTrue(name + " is in the example", called.contains(name));
                checks.isTrue(name + " is in the table", table.contains("`" + name + "("));
            }
        }
    }
}
