import java.lang.reflect.Method;
import java.lang.reflect.Modifier;
import java.nio.file.Files;
import java.nio.file.Path;
import java.util.List;
import java.util.regex.Matcher;
import java.util.regex.Pattern;

/** Makes the calls of README.md's examples: each line of them says its answer behind two slashes. */
public final class ReadmeTest {
    private static final Pattern CALL = Pattern.compile("city\\.(\\w+)\\(([^)]*)\\);\\s*// (-?\\d+|true|false)(:.*)?");
    private static final String NEW_CITY = "AshCity city = new AshCity();";

    public static void main(String[] args) throws Exception {
        List<String> lines = Files.readAllLines(Path.of("README.md"));
        makeCalls(lines);
        nameEveryCall(String.join("\n", lines));
        Due.end();
    }

    private static void makeCalls(List<String> lines) throws Exception {
        AshCity city = null;
        boolean inside = false;
        for (String line : lines) {
            if (line.startsWith("```")) {
                inside = line.equals("```java");
            } else if (inside && line.startsWith(NEW_CITY)) {
                city = new AshCity();
            } else if (inside) {
                makeCall(city, line);
            }
        }
        Due.yes("README.md has examples", city != null);
    }

    private static void makeCall(AshCity city, String line) throws Exception {
        Matcher call = CALL.matcher(line);
        if (city == null || !call.matches()) {
            Due.yes("a call with its answer: " + line, false);
            return;
        }
        Object answer = callOf(call.group(1)).invoke(city, argumentsOf(call.group(2)));
        Due.yes(line + " (it was " + answer + ")", answer.toString().equals(call.group(3)));
    }

    private static Method callOf(String name) {
        for (Method method : AshCity.class.getDeclaredMethods()) {
            if (Modifier.isPublic(method.getModifiers()) && method.getName().equals(name)) {
                return method;
            }
        }
        throw new IllegalArgumentException("no call " + name);
    }

    private static Object[] argumentsOf(String written) {
        String[] each = written.split(", ");
        Object[] arguments = new Object[each.length];
        for (int i = 0; i < each.length; i++) {
            arguments[i] = Integer.decode(each[i]);
        }
        return arguments;
    }

    private static void nameEveryCall(String readme) {
        for (Method method : AshCity.class.getDeclaredMethods()) {
            if (Modifier.isPublic(method.getModifiers())) {
                Due.yes("README.md names " + method.getName(), readme.contains("`" + method.getName() + "`"));
            }
        }
    }
}
