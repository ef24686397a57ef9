import java.io.IOException;
import java.lang.reflect.Method;
import java.lang.reflect.Modifier;
import java.nio.file.Files;
import java.nio.file.Path;
import java.util.List;
import java.util.regex.Matcher;
import java.util.regex.Pattern;

/** What README.md shows is so: each call answers what is told behind it, and each call of the face is in the table. */
public final class ReadmeTest extends Checks {
    private static final String NEW_OBJECT = "RoundDays x = new RoundDays();";
    private static final Pattern CALL = Pattern.compile("x\\.(\\w+)\\((.*)\\); +// (-?\\w+): .*");
    private static final int CALLS_SHOWN = 18;

    public static void main(String[] args) throws IOException, ReflectiveOperationException {
        sentence("README.md");
        List<String> lines = Files.readAllLines(Path.of("README.md"));
        due("calls shown", callsAsShown(lines), CALLS_SHOWN);
        faceInTable(lines);
        finish();
    }

    private static int callsAsShown(List<String> lines) throws ReflectiveOperationException {
        RoundDays x = new RoundDays();
        int calls = 0;
        for (String line : lines) {
            Matcher call = CALL.matcher(line);
            if (line.equals(NEW_OBJECT)) {
                x = new RoundDays();
            } else if (call.matches()) {
                calls++;
                due(line, answer(x, call.group(1), call.group(2)), call.group(3));
            }
        }
        return calls;
    }

    private static String answer(RoundDays x, String name, String told) throws ReflectiveOperationException {
        String[] words = told.isEmpty() ? new String[0] : told.split(", ");
        for (Method method : RoundDays.class.getMethods()) {
            if (method.getName().equals(name) && method.getParameterCount() == words.length) {
                Object[] given = new Object[words.length];
                for (int i = 0; i < words.length; i++) {
                    given[i] = method.getParameterTypes()[i] == boolean.class
                        ? (Object) Boolean.valueOf(words[i]) : (Object) Integer.decode(words[i]);
                }
                return method.invoke(x, given).toString();
            }
        }
        return "no such call";
    }

    private static void faceInTable(List<String> lines) {
        StringBuilder table = new StringBuilder();
        for (String line : lines) {
            if (line.startsWith("| `")) {
                table.append(line);
            }
        }
        for (Method method : RoundDays.class.getDeclaredMethods()) {
            if (Modifier.isPublic(method.getModifiers())) {
                String name = "`" + method.getName() + "`";
                due(name + " in the table", table.indexOf(name) >= 0, true);
            }
        }
    }
}
