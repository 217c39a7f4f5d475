import java.io.IOException;
import java.lang.reflect.Method;
import java.lang.reflect.Modifier;
import java.nio.file.Files;
import java.nio.file.Path;
import java.util.ArrayList;
import java.util.HashMap;
import java.util.List;
import java.util.Map;
import java.util.regex.Matcher;
import java.util.regex.Pattern;

/** README.md: each line of its example answers what its comment tells, and each call and constant stands there. */
public final class ReadmeTest {
    private static final Pattern LINE =
            Pattern.compile("(?:int (\\w+) = )?types\\.(.*)\\); +// (-?\\d+).*");
    private static final Pattern CALL = Pattern.compile("(?:types\\.)?(\\w+)\\((.*)");

    private final TypeForms2 types = new TypeForms2();
    private final Map<String, Long> names = new HashMap<>();

    /** The value of a number, a name, a constant, or a call within a call. */
    private long value(String text) throws ReflectiveOperationException {
        if (text.startsWith("types.")) {
            return call(text.substring(0, text.length() - 1));
        }
        if (text.startsWith("TypeForms2.")) {
            return TypeForms2.class.getField(text.substring(11)).getInt(null);
        }
        return names.containsKey(text) ? names.get(text) : Long.decode(text.replace("L", ""));
    }

    /** The answer to a call, its last bracket left out. */
    private long call(String text) throws ReflectiveOperationException {
        Matcher parts = CALL.matcher(text);
        if (!parts.matches()) {
            throw new IllegalStateException("no call: " + text);
        }
        List<Long> values = new ArrayList<>();
        for (String each : parts.group(2).split(", (?![^(]*\\))")) {
            if (!each.isEmpty()) {
                values.add(value(each));
            }
        }
        for (Method method : TypeForms2.class.getMethods()) {
            if (method.getName().equals(parts.group(1)) && method.getParameterCount() == values.size()) {
                return (int) method.invoke(types, fitting(method, values));
            }
        }
        throw new IllegalStateException("no such call: " + text);
    }

    private static Object[] fitting(Method method, List<Long> values) {
        Object[] all = new Object[values.size()];
        for (int i = 0; i < all.length; i++) {
            boolean isLong = method.getParameterTypes()[i] == long.class;
            all[i] = isLong ? (Object) values.get(i) : (Object) (int) (long) values.get(i);
        }
        return all;
    }

    private void example(List<String> lines) throws ReflectiveOperationException {
        int from = lines.indexOf("```java") + 1;
        int to = from + lines.subList(from, lines.size()).indexOf("```");
        Check.due("the example's first line", "" + lines.get(from).startsWith("TypeForms2 types = new TypeForms2();"),
                "true");
        for (String line : lines.subList(from + 1, to)) {
            Matcher parts = LINE.matcher(line);
            Check.due("a line that can be asked: " + line, "" + parts.matches(), "true");
            if (parts.matches()) {
                long answer = call(parts.group(2));
                Check.due(line, answer, Long.parseLong(parts.group(3)));
                names.put(parts.group(1), answer);
            }
        }
    }

    private static void face(String readme) throws ReflectiveOperationException {
        for (Method method : TypeForms2.class.getDeclaredMethods()) {
            if (Modifier.isPublic(method.getModifiers())) {
                Check.due(method.getName() + " stands there", "" + readme.contains("| `" + method.getName() + "("), "true");
            }
        }
        for (String name : new String[] {"NONE", "UNKNOWN", "OUTSIDE", "ROOM"}) {
            String row = "| `" + name + "` (" + TypeForms2.class.getField(name).getInt(null) + ") |";
            Check.due(name + " stands there", "" + readme.contains(row), "true");
        }
    }

    public static void main(String[] args) throws IOException, ReflectiveOperationException {
        Check.about("README.md");
        Path path = Path.of("README.md");
        new ReadmeTest().example(Files.readAllLines(path));
        face(Files.readString(path));
        Check.end();
    }
}
