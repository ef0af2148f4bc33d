import java.lang.reflect.Constructor;
import java.lang.reflect.Field;
import java.lang.reflect.Member;
import java.lang.reflect.Method;
import java.lang.reflect.Modifier;
import java.util.Arrays;
import java.util.Set;
import java.util.TreeSet;

/** The face of the document, and the rules of LANGUAGE.md that reflection can see. */
public final class FaceTest {
    private static final Set<String> METHODS = new TreeSet<>(Arrays.asList(
        "int append(int, int, int)", "int select(int, int, boolean)", "int close(int)", "int check(int)",
        "int fetch(int, int)", "int store(int, int, int, int)", "int expunge(int)", "int copy(int, int, int)",
        "int criterion(int, int, int)", "int search(int)", "int found(int)", "int sync()", "int crash()",
        "int message(int, int, int)", "int seen(int, int, int)", "int notice(int, int, int)",
        "int mailbox(int, int)", "int count(int)"));
    private static final Set<String> CONSTANTS = new TreeSet<>(Arrays.asList(
        "REFUSED", "FULL", "GONE", "READ_ONLY", "WRONG", "EXPUNGED", "EXISTS", "FLAGGED"));

    public static void main(String[] args) {
        Due due = new Due();
        due.in("face");
        constants(due);
        members(due);
        nestedClasses(due);
        due.end();
    }

    private static void constants(Due due) {
        due.is("REFUSED", MailViews.REFUSED, -1);
        due.is("FULL", MailViews.FULL, -2);
        due.is("GONE", MailViews.GONE, -3);
        due.is("READ_ONLY", MailViews.READ_ONLY, -4);
        due.is("WRONG", MailViews.WRONG, -5);
        due.is("EXPUNGED", MailViews.EXPUNGED, 1);
        due.is("EXISTS", MailViews.EXISTS, 2);
        due.is("FLAGGED", MailViews.FLAGGED, 3);
    }

    private static void members(Due due) {
        due.holds("the class is final", Modifier.isFinal(MailViews.class.getModifiers()));
        due.holds("the class is public", Modifier.isPublic(MailViews.class.getModifiers()));
        Set<String> methods = new TreeSet<>();
        Set<String> publicNames = new TreeSet<>();
        for (Method method : MailViews.class.getDeclaredMethods()) {
            if (!isHidden(method)) {
                methods.add(signature(method));
                publicNames.add(method.getName());
                due.holds(method.getName() + " is public", Modifier.isPublic(method.getModifiers()));
            }
        }
        due.holds("the methods are those of the document: " + methods, methods.equals(METHODS));
        Set<String> fields = new TreeSet<>();
        for (Field field : MailViews.class.getDeclaredFields()) {
            boolean isStatic = Modifier.isStatic(field.getModifiers());
            due.holds(field.getName() + " is not static, or final",
                !isStatic || Modifier.isFinal(field.getModifiers()));
            if (!isHidden(field)) {
                fields.add(field.getName());
            }
        }
        due.holds("the constants are those of the document: " + fields, fields.equals(CONSTANTS));
        Constructor<?>[] constructors = MailViews.class.getDeclaredConstructors();
        due.is("constructors", constructors.length, 1);
        due.is("parameters of the constructor", constructors[0].getParameterCount(), 0);
        due.holds("the constructor is public", Modifier.isPublic(constructors[0].getModifiers()));
        for (Class<?> nested : MailViews.class.getDeclaredClasses()) {
            noPublicName(due, nested, publicNames);
        }
        noPublicName(due, MailViews.class, publicNames);
    }

    private static void noPublicName(Due due, Class<?> owner, Set<String> publicNames) {
        for (Method method : owner.getDeclaredMethods()) {
            if (!Modifier.isPublic(method.getModifiers())) {
                due.holds(owner.getSimpleName() + "." + method.getName() + " bears a name of its own",
                    !publicNames.contains(method.getName()));
            }
        }
    }

    private static void nestedClasses(Due due) {
        Class<?>[] nested = MailViews.class.getDeclaredClasses();
        due.holds("at most twelve classes", nested.length + 1 <= 12);
        for (Class<?> one : nested) {
            due.holds(one.getSimpleName() + " is static", Modifier.isStatic(one.getModifiers()));
            due.holds(one.getSimpleName() + " is not public", !Modifier.isPublic(one.getModifiers()));
        }
    }

    private static boolean isHidden(Member member) {
        return member.isSynthetic() || Modifier.isPrivate(member.getModifiers());
    }

    private static String signature(Method method) {
        StringBuilder text = new StringBuilder(method.getReturnType().getName());
        text.append(' ').append(method.getName()).append('(');
        String between = "";
        for (Class<?> type : method.getParameterTypes()) {
            text.append(between).append(type.getName());
            between = ", ";
        }
        return text.append(')').toString();
    }
}
