import java.io.IOException;
import java.lang.reflect.Method;
import java.lang.reflect.Modifier;
import java.nio.file.Files;
import java.nio.file.Path;
import java.util.List;
import java.util.regex.Matcher;
import java.util.regex.Pattern;

/** What README.md shows: its run is made call by call as it stands there, and each call of the face is named. */
public final class ReadmeTest {
    private static final Path README = Path.of("README.md");
    private static final Pattern CALL = Pattern.compile("dates\\.(\\w+)\\(([^)]*)\\); +// (-?\\w+): .*");
    private static final Pattern GIVE = Pattern.compile("give\\(dates, \"([^\"]*)\"\\);");

    private final Due due = new Due("README.md");

    public static void main(String[] args) throws IOException, ReflectiveOperationException {
        ReadmeTest test = new ReadmeTest();
        List<String> lines = Files.readAllLines(README);
        int calls = 0;
        for (String line : lines) {
            calls += test.shown(line) ? 1 : 0;
        }
        test.due.is("calls of the run that are shown and made", calls >= 25, true);
        test.eachCallIsNamed(String.join("\n", lines));
        Due.finish();
    }

    /** Makes the call of a line of the run; whether it was one with an answer. */
    private boolean shown(String line) throws ReflectiveOperationException {
        Matcher give = GIVE.matcher(line);
        if (give.matches()) {
            due.text(give.group(1));
            return false;
        }
        Matcher call = CALL.matcher(line);
        if (!call.matches()) {
            due.is("a line of the run that can't be read: " + line, line.startsWith("dates."), false);
            return false;
        }
        due.is(line, answer(call.group(1), call.group(2)), number(call.group(3)));
        return true;
    }

    private long answer(String name, String given) throws ReflectiveOperationException {
        String[] texts = given.isEmpty() ? new String[0] : given.split(", ");
        for (Method m : ProseDates.class.getMethods()) {
            if (m.getName().equals(name) && m.getParameterCount() == texts.length) {
                return number(m.invoke(due.x, arguments(m, texts)).toString());
            }
        }
        throw new NoSuchMethodException(name);
    }

    private static Object[] arguments(Method m, String[] texts) {
        Object[] made = new Object[texts.length];
        for (int i = 0; i < texts.length; i++) {
            long n = number(texts[i]);
            made[i] = m.getParameterTypes()[i] == boolean.class ? (Object) (n == 1) : (Object) (int) n;
        }
        return made;
    }

    private static long number(String text) {
        switch (text) {
            case "true": return 1;
            case "false": return 0;
            case "ProseDates.NONE": return ProseDates.NONE;
            default: return Long.parseLong(text);
        }
    }

    private void eachCallIsNamed(String all) {
        for (Method m : ProseDates.class.getDeclaredMethods()) {
            if (Modifier.isPublic(m.getModifiers())) {
                due.is("'" + m.getName() + "' is named", all.contains("`" + m.getName() + "`"), true);
            }
        }
    }
}
