import java.lang.reflect.Method;
import java.nio.file.Files;
import java.nio.file.Path;
import java.util.regex.Matcher;
import java.util.regex.Pattern;

/** The calls on README.md, one behind another on one object: each answers what stands behind it. */
final class ReadmeTest {
    private static final Pattern CALL = Pattern.compile("x\\.(\\w+)\\((.*)\\); *// (-?\\d+)(?::.*)?");

    public static void main(String[] args) throws Exception {
        CupsAndPea x = new CupsAndPea();
        int calls = 0;
        for (String line : Files.readAllLines(Path.of("README.md"))) {
            if (line.startsWith("x.")) {
                Matcher m = CALL.matcher(line);
                if (!m.matches()) {
                    Check.fail("not a call with its answer: " + line);
                    continue;
                }
                Check.due(line, Long.parseLong(m.group(3)), answer(x, m.group(1), m.group(2)));
                calls++;
            }
        }
        Check.due("there are calls", 1, calls > 0 ? 1 : 0);
        Check.end();
    }

    private static long answer(CupsAndPea x, String name, String told) throws Exception {
        String[] words = told.isEmpty() ? new String[0] : told.split(", ");
        Object[] numbers = new Object[words.length];
        for (int i = 0; i < words.length; i++) {
            numbers[i] = words[i].startsWith("'") ? (int) words[i].charAt(1) : Integer.decode(words[i]);
        }
        for (Method m : CupsAndPea.class.getMethods()) {
            if (m.getName().equals(name) && m.getParameterCount() == numbers.length) {
                return ((Number) m.invoke(x, numbers)).longValue();
            }
        }
        throw new IllegalArgumentException("no call " + name + " that is told " + numbers.length + " numbers");
    }
}
