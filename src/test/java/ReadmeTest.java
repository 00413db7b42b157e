import java.lang.reflect.Method;
import java.nio.file.Files;
import java.nio.file.Path;
import java.util.regex.Matcher;
import java.util.regex.Pattern;

/** The calls that README.md shows, one behind the other, must answer what stands behind them there. */
public final class ReadmeTest extends Checks {
    private static final Pattern SHOWN = Pattern.compile("x\\.(\\w+)\\((.*?)\\);\\s*// (-?\\d+):.*");

    private static Method method(String name) {
        for (Method m : WornShapes.class.getMethods()) {
            if (m.getName().equals(name)) {
                return m;
            }
        }
        throw new IllegalArgumentException("README.md shows a call that there is not: " + name);
    }

    private static Object value(String word) {
        boolean truth = word.equals("true") || word.equals("false");
        return truth ? (Object) Boolean.valueOf(word) : (Object) Integer.valueOf(word);
    }

    private static long answer(WornShapes x, String name, String words) throws Exception {
        String[] parts = words.isEmpty() ? new String[0] : words.split(", ");
        Object[] values = new Object[parts.length];
        for (int i = 0; i < parts.length; i++) {
            values[i] = value(parts[i]);
        }
        return ((Number) method(name).invoke(x, values)).longValue();
    }

    public static void main(String[] args) throws Exception {
        about("README.md");
        WornShapes x = new WornShapes();
        int shown = 0;
        int lines = 0;
        for (String line : Files.readAllLines(Path.of("README.md"))) {
            Matcher m = SHOWN.matcher(line);
            lines += line.startsWith("x.") ? 1 : 0;
            if (m.matches()) {
                shown++;
                due(m.group(1) + "(" + m.group(2) + ")", answer(x, m.group(1), m.group(2)), Long.parseLong(m.group(3)));
            }
        }
        due("calls shown with an answer", shown, lines);
        due("some are shown", shown > 10 ? 1 : 0, 1);
        finish();
    }
}
