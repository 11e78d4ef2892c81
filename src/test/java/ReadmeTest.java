import java.lang.reflect.Method;
import java.lang.reflect.Modifier;
import java.nio.file.Files;
import java.nio.file.Path;
import java.util.regex.Matcher;
import java.util.regex.Pattern;

/** What README.md says of the calls: each of them answers what stands behind it, and none is left out. */
public final class ReadmeTest {
    private static final Pattern NEW = Pattern.compile("^HandsLet x = new HandsLet\\(\\);$");
    private static final Pattern TELL = Pattern.compile("^tell\\(x, \"(.*)\"\\); +// (-?\\d+)\\b.*$");
    private static final Pattern CALL = Pattern.compile("^x\\.(\\w+)\\((.*)\\); *// (-?\\d+)\\b.*$");

    private static final Checks CHECKS = new Checks();
    private static HandsLet x;
    private static int calls;

    public static void main(String[] args) throws Exception {
        String page = Files.readString(Path.of("README.md"));
        for (String line : page.split("\n")) {
            follow(line);
        }
        CHECKS.due("the page has examples", calls >= 20 ? 1 : 0, 1);
        for (Method method : HandsLet.class.getDeclaredMethods()) {
            if (Modifier.isPublic(method.getModifiers())) {
                CHECKS.due("the page names " + method.getName(), page.contains("`" + method.getName() + "`") ? 1 : 0, 1);
            }
        }
        CHECKS.finish();
    }

    private static void follow(String line) throws Exception {
        Matcher told = TELL.matcher(line);
        Matcher called = CALL.matcher(line);
        if (NEW.matcher(line).matches()) {
            x = new HandsLet();
        } else if (told.matches()) {
            calls++;
            CHECKS.due(line, Checks.tell(x, told.group(1)), Long.parseLong(told.group(2)));
        } else if (called.matches()) {
            calls++;
            CHECKS.due(line, answer(called.group(1), called.group(2)), Long.parseLong(called.group(3)));
        } else {
            CHECKS.due("not understood: " + line, line.startsWith("x.") || line.startsWith("tell(") ? 1 : 0, 0);
        }
    }

    private static long answer(String name, String told) throws Exception {
        String[] parts = told.isEmpty() ? new String[0] : told.split(", *");
        for (Method method : HandsLet.class.getDeclaredMethods()) {
            if (method.getName().equals(name)) {
                return ((Number) method.invoke(x, values(method, parts))).longValue();
            }
        }
        throw new IllegalStateException("no call " + name);
    }

    private static Object[] values(Method method, String[] parts) {
        Object[] values = new Object[parts.length];
        for (int i = 0; i < parts.length; i++) {
            boolean yesOrNo = method.getParameterTypes()[i] == boolean.class;
            values[i] = yesOrNo ? (Object) Boolean.valueOf(parts[i]) : (Object) Integer.valueOf(parts[i]);
        }
        return values;
    }
}
