import java.io.IOException;
import java.lang.reflect.Field;
import java.lang.reflect.Method;
import java.lang.reflect.Modifier;
import java.nio.file.Files;
import java.nio.file.Path;
import java.util.ArrayList;
import java.util.Arrays;
import java.util.List;
import java.util.regex.Pattern;

/** The rules of LANGUAGE.md that can be read from the program's lines, or counted in its classes. */
public final class RulesTest {
    private static final String[] NO_WORDS = {
        "throw", "throws", "try", "catch", "finally", "synchronized", "assert", "package", "volatile",
        "native", "Thread", "Random", "hashCode", "currentTimeMillis", "nanoTime", "getenv", "\\w+Exact"};
    private static final String[] NO_SIGNS = {"->", "::", "[][][]", "static {"};
    private static final Pattern IMPORT =
        Pattern.compile("import java\\.util\\.(ArrayList|Arrays|Iterator|List);");
    private static final List<Class<?>> STATIC_TYPES = Arrays.asList(int.class, long.class, boolean.class,
        char.class, String.class, int[].class, long[].class, char[].class, byte[].class);
    private static final int MOST_LINES = 60;
    private static final int MOST_PARAMETERS = 7;
    private static final int MOST_FIELDS = 20;

    private static final Due due = new Due();

    public static void main(String[] args) throws IOException {
        due.in("LANGUAGE.md");
        List<String> code = withoutComments(Files.readString(Path.of("src/main/java/MailViews.java")));
        words(code);
        methodLengths(code);
        for (Class<?> one : allClasses()) {
            sizes(one);
            statics(one);
        }
        due.end();
    }

    private static List<String> withoutComments(String text) {
        Pattern comment = Pattern.compile("/\\*.*?\\*/", Pattern.DOTALL);
        // A comment keeps its line breaks, so that the rest stays on lines of its own.
        String bare = comment.matcher(text).replaceAll(found -> "\n".repeat((int) found.group().lines().count() - 1));
        List<String> code = new ArrayList<>();
        for (String line : bare.split("\n", -1)) {
            code.add(line.replaceAll("//.*", ""));
        }
        return code;
    }

    private static void words(List<String> code) {
        for (int at = 0; at < code.size(); at++) {
            String line = code.get(at);
            for (String word : NO_WORDS) {
                due.holds("line " + (at + 1) + " has no " + word, !line.matches(".*\\b" + word + "\\b.*"));
            }
            for (String sign : NO_SIGNS) {
                due.holds("line " + (at + 1) + " has no " + sign, !line.contains(sign));
            }
            due.holds("line " + (at + 1) + " imports only what the rules list",
                !line.startsWith("import") || IMPORT.matcher(line).matches());
        }
    }

    /** A method begins with a line that ends in ") {" and closes with a brace under its first letter. */
    private static void methodLengths(List<String> code) {
        Pattern head = Pattern.compile("( {4}| {8})(public|private|static|boolean|int|void)\\b.*\\) \\{");
        int methods = 0;
        for (int at = 0; at < code.size(); at++) {
            if (head.matcher(code.get(at)).matches()) {
                methods++;
                String close = code.get(at).replaceAll("\\S.*", "") + "}";
                int end = at;
                while (end < code.size() && !code.get(end).equals(close)) {
                    end++;
                }
                due.holds("the method at line " + (at + 1) + " is short", end - at + 1 <= MOST_LINES);
            }
        }
        int declared = 0;
        for (Class<?> one : allClasses()) {
            for (Method method : one.getDeclaredMethods()) {
                declared += method.isSynthetic() ? 0 : 1;
            }
        }
        due.is("methods and the constructor found", methods, declared + 1);
    }

    private static List<Class<?>> allClasses() {
        List<Class<?>> all = new ArrayList<>(Arrays.asList(MailViews.class.getDeclaredClasses()));
        all.add(MailViews.class);
        return all;
    }

    private static void sizes(Class<?> one) {
        int fields = 0;
        for (Field field : one.getDeclaredFields()) {
            fields += Modifier.isStatic(field.getModifiers()) ? 0 : 1;
        }
        due.holds(one.getSimpleName() + " has few fields", fields <= MOST_FIELDS);
        for (Method method : one.getDeclaredMethods()) {
            due.holds(one.getSimpleName() + "." + method.getName() + " takes few parameters",
                method.getParameterCount() <= MOST_PARAMETERS);
        }
    }

    private static void statics(Class<?> one) {
        for (Field field : one.getDeclaredFields()) {
            boolean isStatic = Modifier.isStatic(field.getModifiers());
            due.holds(one.getSimpleName() + "." + field.getName() + " is no static state",
                !isStatic || Modifier.isFinal(field.getModifiers()) && STATIC_TYPES.contains(field.getType()));
        }
    }
}
