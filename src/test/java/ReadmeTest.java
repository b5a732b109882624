import java.lang.reflect.Method;
import java.lang.reflect.Modifier;
import java.nio.file.Files;
import java.nio.file.Path;
import java.util.List;
import java.util.regex.Matcher;
import java.util.regex.Pattern;

/** The examples of README.md answer what stands behind them, and its table of calls has every call. */
public final class ReadmeTest {
    private static final Pattern CALL = Pattern.compile("    x\\.(\\w+)\\((.*)\\);( +// (-?\\d+|true|false)\\b.*)?");
    private static final Pattern TEXT_LINE =
            Pattern.compile("    ((party|seats|sitting|meal|lay|hands|over|seed|law) .*;).*");

    public static void main(String[] args) throws Exception {
        List<String> page = Files.readAllLines(Path.of("README.md"));
        examples(page);
        table(page);
        Kit.end("ReadmeTest");
    }

    private static void examples(List<String> page) throws Exception {
        ThreeSittings x = new ThreeSittings();
        StringBuilder text = new StringBuilder();
        int compared = 0;
        for (String line : page) {
            Matcher textLine = TEXT_LINE.matcher(line);
            Matcher call = CALL.matcher(line);
            if (textLine.matches()) {
                text.append(textLine.group(1)).append('\n');
            } else if (call.matches()) {
                if (text.length() > 0) {
                    x = Kit.told(text.toString());
                    text.setLength(0);
                }
                Object got = answer(x, call.group(1), call.group(2));
                if (call.group(4) != null) {
                    Kit.due(line.trim(), String.valueOf(got), call.group(4));
                    compared++;
                }
            }
        }
        // If the page's form changes, its examples must not fall out of the test.
        Kit.due("examples with an answer", compared, 16);
    }

    private static Object answer(ThreeSittings x, String name, String arguments) throws Exception {
        String[] parts = arguments.isEmpty() ? new String[0] : arguments.split(", ");
        Class<?>[] types = new Class<?>[parts.length];
        Object[] numbers = new Object[parts.length];
        for (int k = 0; k < parts.length; k++) {
            types[k] = int.class;
            numbers[k] = Integer.decode(parts[k]);
        }
        return ThreeSittings.class.getMethod(name, types).invoke(x, numbers);
    }

    private static void table(List<String> page) {
        StringBuilder rows = new StringBuilder();
        for (String line : page) {
            if (line.startsWith("| ")) {
                rows.append(line);
            }
        }
        for (Method m : ThreeSittings.class.getDeclaredMethods()) {
            if (Modifier.isPublic(m.getModifiers())) {
                Kit.due("the table has " + m.getName(), rows.indexOf("`" + m.getName() + "`") >= 0, true);
            }
        }
    }
}
