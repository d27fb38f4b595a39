import java.io.IOException;
import java.nio.file.Files;
import java.nio.file.Path;
import java.util.ArrayList;
import java.util.List;
import java.util.regex.Matcher;
import java.util.regex.Pattern;

/** The calls of the README's example answer what stands behind them. */
public final class ReadmeTest {
    private static final Pattern ROW = Pattern.compile("x\\.(\\w+)\\(([^)]*)\\); +// (true|false|-?\\d+)?.*");

    public static void main(String[] args) throws IOException, ReflectiveOperationException {
        RadicalAnswers x = new RadicalAnswers();
        List<String> names = new ArrayList<>();
        for (String line : Files.readAllLines(Path.of("README.md"))) {
            Matcher row = ROW.matcher(line);
            if (row.matches()) {
                names.add(row.group(1));
                Object got = call(x, row.group(1), row.group(2));
                String want = row.group(3);
                Check.due(line + " answered " + got, String.valueOf(got).equals(String.valueOf(want)), true);
            }
        }
        for (java.lang.reflect.Method method : RadicalAnswers.class.getMethods()) {
            if (method.getDeclaringClass() == RadicalAnswers.class) {
                Check.due("an example of " + method.getName(), names.contains(method.getName()), true);
            }
        }
        Check.end();
    }

    private static Object call(RadicalAnswers x, String name, String texts) throws ReflectiveOperationException {
        String[] parts = texts.isEmpty() ? new String[0] : texts.split(", ");
        Class<?>[] types = new Class<?>[parts.length];
        Object[] values = new Object[parts.length];
        for (int i = 0; i < parts.length; i++) {
            boolean isWord = parts[i].equals("true") || parts[i].equals("false");
            types[i] = isWord ? boolean.class : int.class;
            values[i] = isWord ? (Object) Boolean.valueOf(parts[i]) : (Object) Integer.valueOf(parts[i]);
        }
        return RadicalAnswers.class.getMethod(name, types).invoke(x, values);
    }
}
