import java.lang.reflect.Constructor;
import java.lang.reflect.Field;
import java.lang.reflect.Method;
import java.lang.reflect.Modifier;
import java.util.Set;
import java.util.TreeSet;

/** The public face is the document's, and no other member can be seen from outside. */
public final class FaceTest {
    private static final Check CHECK = new Check();
    private static final Set<String> DUE = new TreeSet<>(Set.of(
            "int allow(int, int, int)",
            "int fill(int, int)",
            "int allowed(int, int, int)",
            "int day(int)",
            "int date(int)",
            "int weekday(int)",
            "int monthDays(int, int)",
            "int dayOfYear(int)",
            "int week(int)",
            "int addMonths(int, int)",
            "int nth(int, int, int)",
            "int fits(int, long)",
            "long next(int, long)",
            "long previous(int, long)",
            "int dueOn(int, int)",
            "int dueDays(int, int, int)"));

    public static void main(String[] args) {
        Class<?> face = CronCalendar.class;
        CHECK.due("the class is public and final", face.getModifiers(), Modifier.PUBLIC | Modifier.FINAL);
        CHECK.due("nested classes", face.getDeclaredClasses().length, 0);
        constructors(face);
        methods(face);
        for (Field field : face.getDeclaredFields()) {
            boolean hidden = Modifier.isPrivate(field.getModifiers());
            CHECK.due("private is " + field.getName(), hidden ? 1 : 0, 1);
        }
        CHECK.finish();
    }

    private static void constructors(Class<?> face) {
        Constructor<?>[] all = face.getDeclaredConstructors();
        CHECK.due("constructors", all.length, 1);
        CHECK.due("the constructor's parameters", all[0].getParameterCount(), 0);
        CHECK.due("the constructor's modifiers", all[0].getModifiers(), Modifier.PUBLIC);
    }

    private static void methods(Class<?> face) {
        Set<String> seen = new TreeSet<>();
        for (Method method : face.getDeclaredMethods()) {
            if (!Modifier.isPrivate(method.getModifiers())) {
                CHECK.due("modifiers of " + method.getName(), method.getModifiers(), Modifier.PUBLIC);
                seen.add(told(method));
            }
        }
        for (String method : DUE) {
            CHECK.due("there is " + method, seen.contains(method) ? 1 : 0, 1);
        }
        CHECK.due("methods that can be seen", seen.size(), DUE.size());
    }

    private static String told(Method method) {
        StringBuilder text = new StringBuilder();
        for (Class<?> type : method.getParameterTypes()) {
            text.append(text.length() == 0 ? "" : ", ").append(type.getName());
        }
        return method.getReturnType().getName() + " " + method.getName() + "(" + text + ")";
    }
}
