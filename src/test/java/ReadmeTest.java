import java.lang.reflect.Method;
import java.nio.file.Files;
import java.nio.file.Path;
import java.util.regex.Matcher;
import java.util.regex.Pattern;

/** Makes each call of the example in README.md, and compares its answer with what is said there. */
public final class ReadmeTest {
    private static final Pattern MAKING =
        Pattern.compile("LayerFeeder feeder = new LayerFeeder\\((\\d+)\\);");
    private static final Pattern CALL =
        Pattern.compile("feeder\\.(\\w+)\\(([^)]*)\\);(?: +// (true|false|-?\\d+)(?:,.*)?)?");

    public static void main(String[] args) throws Exception {
        String readme = Files.readString(Path.of("README.md"));
        int from = readme.indexOf("```java\n");
        int end = readme.indexOf("```", from + 3);
        if (from < 0 || end < 0) {
            Bench.note("README.md has no example");
        } else {
            carryOut(readme.substring(from, end).split("\n"));
        }
        Bench.end();
    }

    private static void carryOut(String[] lines) throws Exception {
        LayerFeeder feeder = null;
        for (int i = 1; i < lines.length; i++) {
            Bench.sentence("README.md: " + lines[i]);
            Matcher making = MAKING.matcher(lines[i]);
            Matcher call = CALL.matcher(lines[i]);
            if (making.matches()) {
                feeder = new LayerFeeder(Integer.parseInt(making.group(1)));
            } else if (feeder != null && call.matches()) {
                carryOut(feeder, call);
            } else {
                Bench.note("is no call that this test can make");
            }
        }
        Bench.due("there is an example", feeder != null, true);
    }

    private static void carryOut(LayerFeeder feeder, Matcher call) throws Exception {
        Method method = methodNamed(call.group(1));
        Object answer = method.invoke(feeder, arguments(method, call.group(2)));
        String got = String.valueOf(answer);
        String want = String.valueOf(call.group(3));
        if (!got.equals(want)) {
            Bench.note("answered " + got);
        }
    }

    private static Method methodNamed(String name) {
        for (Method method : LayerFeeder.class.getMethods()) {
            if (method.getName().equals(name)) {
                return method;
            }
        }
        throw new IllegalArgumentException("README.md calls " + name);
    }

    private static Object[] arguments(Method method, String written) {
        Class<?>[] types = method.getParameterTypes();
        Object[] arguments = new Object[types.length];
        String[] parts = written.split(", ");
        for (int i = 0; i < types.length; i++) {
            if (types[i] == long.class) {
                arguments[i] = Long.decode(parts[i].replace("L", ""));
            } else if (types[i] == int.class) {
                arguments[i] = Integer.decode(parts[i]);
            } else {
                arguments[i] = Boolean.valueOf(parts[i]);
            }
        }
        return arguments;
    }
}
