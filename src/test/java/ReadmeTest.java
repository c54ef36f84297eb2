import java.io.IOException;
import java.lang.reflect.Method;
import java.lang.reflect.Modifier;
import java.nio.file.Files;
import java.nio.file.Path;
import java.util.ArrayList;
import java.util.List;
import java.util.Set;
import java.util.TreeSet;
import java.util.regex.Matcher;
import java.util.regex.Pattern;

/**
 * What README.md shows of the class's use is what the class answers: every line of its examples is called, and
 * the number at the beginning of the line's comment is the answer that is due.
 */
public final class ReadmeTest {
    private static final Pattern NEW_OBJECT = Pattern.compile("LockOrders x = new LockOrders\\(\\);");
    private static final Pattern CALL = Pattern.compile("x\\.(\\w+)\\(([-0-9, ]*)\\);\\s+// (-?[0-9]+)(: .*)?");
    private static final Pattern CODE = Pattern.compile("`(BAD_ARG|FULL|NONE)` \\((-?[0-9]+)");

    private final Check check = new Check();
    private final Set<String> shown = new TreeSet<>();
    private LockOrders x;

    public static void main(String[] args) throws IOException, ReflectiveOperationException {
        String text = Files.readString(Path.of("README.md"));
        ReadmeTest test = new ReadmeTest();
        for (String line : exampleLines(text)) {
            test.follow(line);
        }
        test.everyMethodIsShown();
        test.codesAreAsInTheClass(text);
        test.everyTestIsNamed(text);
        test.check.end();
    }

    private static List<String> exampleLines(String text) {
        List<String> found = new ArrayList<>();
        boolean inside = false;
        for (String line : text.split("\n")) {
            if (line.startsWith("```")) {
                inside = line.equals("```java");
            } else if (inside && !line.isBlank()) {
                found.add(line.strip());
            }
        }
        return found;
    }

    /** A line of another form fails: its answer would go unseen. */
    private void follow(String line) throws ReflectiveOperationException {
        Matcher call = CALL.matcher(line);
        if (NEW_OBJECT.matcher(line).matches()) {
            x = new LockOrders();
        } else if (x != null && call.matches()) {
            check.due("README.md: " + line, answer(call.group(1), call.group(2)), Integer.parseInt(call.group(3)));
            shown.add(call.group(1));
        } else {
            check.dueTrue("README.md: a line that can be followed: " + line, false);
        }
    }

    private int answer(String name, String words) throws ReflectiveOperationException {
        String[] parts = words.isBlank() ? new String[0] : words.split(",");
        Class<?>[] types = new Class<?>[parts.length];
        Object[] values = new Object[parts.length];
        for (int i = 0; i < parts.length; i++) {
            types[i] = int.class;
            values[i] = Integer.valueOf(parts[i].strip());
        }
        return (int) LockOrders.class.getMethod(name, types).invoke(x, values);
    }

    private void everyMethodIsShown() {
        for (Method m : LockOrders.class.getDeclaredMethods()) {
            if (Modifier.isPublic(m.getModifiers())) {
                check.dueTrue("README.md shows " + m.getName(), shown.contains(m.getName()));
            }
        }
    }

    private void codesAreAsInTheClass(String text) throws ReflectiveOperationException {
        Set<String> named = new TreeSet<>();
        Matcher code = CODE.matcher(text);
        while (code.find()) {
            named.add(code.group(1));
            check.due("README.md: " + code.group(1), Integer.parseInt(code.group(2)),
                    LockOrders.class.getField(code.group(1)).getInt(null));
        }
        check.dueTrue("README.md tells all codes, not only " + named, named.size() == 3);
    }

    private void everyTestIsNamed(String text) throws IOException {
        try (var files = Files.list(Path.of("src/test/java"))) {
            for (Path file : files.toList()) {
                String name = file.getFileName().toString().replace(".java", "");
                if (name.endsWith("Test")) {
                    check.dueTrue("README.md names " + name, text.contains("`" + name + "`"));
                }
            }
        }
    }
}
