import java.io.File;
import java.io.IOException;
import java.lang.reflect.Field;
import java.lang.reflect.Method;
import java.lang.reflect.Modifier;
import java.nio.file.Files;
import java.nio.file.Path;
import java.util.List;
import java.util.regex.Matcher;
import java.util.regex.Pattern;

/** README.md tells of the class and of its tests as they stand. */
public final class ReadmeTest {
    private static final Pattern CALL = Pattern.compile("store\\.(\\w+)\\((.*)\\); +// (-?\\w+).*");
    private static final Pattern CONSTANT = Pattern.compile("\\| `(\\w+)` \\| (-?\\d+) \\|.*");

    private static final Due due = new Due();

    public static void main(String[] args) throws IOException, ReflectiveOperationException {
        due.in("README.md");
        List<String> lines = Files.readAllLines(Path.of("README.md"));
        calls(lines);
        constants(lines);
        everyMethod(lines);
        everyClass(lines);
        everyTest(lines);
        due.end();
    }

    private static void calls(List<String> lines) throws ReflectiveOperationException {
        MailViews store = new MailViews();
        int made = 0;
        for (String line : lines) {
            Matcher call = CALL.matcher(line);
            if (call.matches()) {
                made++;
                due.is(line, answer(store, call.group(1), call.group(2)), value(call.group(3)));
            } else {
                due.holds("a call whose answer is told: " + line, !line.startsWith("store."));
            }
        }
        due.holds("there are calls", made > 0);
    }

    private static int answer(MailViews store, String name, String arguments)
            throws ReflectiveOperationException {
        String[] texts = arguments.isEmpty() ? new String[0] : arguments.split(", ");
        Object[] values = new Object[texts.length];
        Class<?>[] types = new Class<?>[texts.length];
        for (int at = 0; at < texts.length; at++) {
            boolean isNumber = texts[at].matches("-?\\d+");
            types[at] = isNumber ? int.class : boolean.class;
            if (isNumber) {
                values[at] = Integer.valueOf(texts[at]);
            } else {
                values[at] = Boolean.valueOf(texts[at]);
            }
        }
        return (Integer) MailViews.class.getMethod(name, types).invoke(store, values);
    }

    private static int value(String text) throws ReflectiveOperationException {
        return text.matches("-?\\d+") ? Integer.parseInt(text) : MailViews.class.getField(text).getInt(null);
    }

    private static void constants(List<String> lines) throws ReflectiveOperationException {
        int told = 0;
        for (String line : lines) {
            Matcher constant = CONSTANT.matcher(line);
            if (constant.matches()) {
                told++;
                due.is(line, Integer.parseInt(constant.group(2)), value(constant.group(1)));
            }
        }
        int all = 0;
        for (Field field : MailViews.class.getDeclaredFields()) {
            all += Modifier.isPublic(field.getModifiers()) ? 1 : 0;
        }
        due.is("constants told", told, all);
    }

    private static void everyMethod(List<String> lines) {
        for (Method method : MailViews.class.getDeclaredMethods()) {
            if (Modifier.isPublic(method.getModifiers())) {
                Pattern row = Pattern.compile("\\| `" + method.getName() + "\\(([^)]*)\\)` \\|.*");
                due.is("parameters told of " + method.getName(), parametersTold(lines, row), method.getParameterCount());
            }
        }
    }

    private static int parametersTold(List<String> lines, Pattern row) {
        for (String line : lines) {
            Matcher told = row.matcher(line);
            if (told.matches()) {
                return told.group(1).isEmpty() ? 0 : told.group(1).split(", ").length;
            }
        }
        return -1;
    }

    private static void everyClass(List<String> lines) {
        for (Class<?> nested : MailViews.class.getDeclaredClasses()) {
            due.holds("the class " + nested.getSimpleName(), hasRow(lines, nested.getSimpleName()));
        }
    }

    private static void everyTest(List<String> lines) {
        String[] files = new File("src/test/java").list();
        due.holds("there are tests", files != null && files.length > 0);
        for (String file : files == null ? new String[0] : files) {
            if (file.endsWith("Test.java")) {
                String name = file.substring(0, file.length() - ".java".length());
                due.holds("the test " + name, hasRow(lines, name));
            }
        }
    }

    private static boolean hasRow(List<String> lines, String name) {
        for (String line : lines) {
            if (line.startsWith("| `" + name + "` |")) {
                return true;
            }
        }
        return false;
    }
}
