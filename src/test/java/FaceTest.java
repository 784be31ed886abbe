import java.lang.reflect.Constructor;
import java.lang.reflect.Field;
import java.lang.reflect.Method;
import java.lang.reflect.Modifier;
import java.util.Arrays;
import java.util.Set;
import java.util.TreeSet;

/** The public face is the document's and no more, and every other member is private. */
public final class FaceTest {
    private static final String[] FACE = {
        "public static final int REFUSED",
        "public static final int NEVER",
        "WheelScheduler(int)",
        "boolean manner(int, int, int, int)",
        "int job(int, int, int)",
        "int cron(int, int, int, int, int)",
        "boolean give(int)",
        "int advance(int)",
        "int request(int)",
        "boolean stop()",
        "int go()",
        "int due(int)",
        "int about(int, int)",
        "int run(int, int)",
        "int state(int)",
        "int nextEnd()"};

    public static void main(String[] args) {
        Class<?> type = WheelScheduler.class;
        Set<String> found = new TreeSet<>();
        Set<String> publicNames = new TreeSet<>();
        for (Field field : type.getDeclaredFields()) {
            if (!Modifier.isPrivate(field.getModifiers())) {
                found.add(Modifier.toString(field.getModifiers()) + " " + field.getType() + " " + field.getName());
            }
        }
        for (Constructor<?> made : type.getDeclaredConstructors()) {
            found.add("WheelScheduler" + inBrackets(made.getParameterTypes()));
            Check.yes("public constructor", Modifier.isPublic(made.getModifiers()));
        }
        for (Method method : type.getDeclaredMethods()) {
            if (!Modifier.isPrivate(method.getModifiers())) {
                Check.yes("public " + method.getName(), Modifier.isPublic(method.getModifiers()));
                publicNames.add(method.getName());
                found.add(method.getReturnType() + " " + method.getName() + inBrackets(method.getParameterTypes()));
            }
        }
        for (Method method : type.getDeclaredMethods()) {
            if (Modifier.isPrivate(method.getModifiers())) {
                Check.no("private method with a public name: " + method.getName(),
                        publicNames.contains(method.getName()));
            }
        }
        Set<String> wanted = new TreeSet<>(Arrays.asList(FACE));
        if (!found.equals(wanted)) {
            System.out.println("found  " + found + "\nwanted " + wanted);
        }
        Check.yes("the face", found.equals(wanted));
        Check.same("modifiers", type.getModifiers(), Modifier.PUBLIC | Modifier.FINAL);
        Check.same("nested classes", type.getDeclaredClasses().length, 0);
        Check.same("REFUSED", WheelScheduler.REFUSED, -1);
        Check.same("NEVER", WheelScheduler.NEVER, -2);
        Check.end();
    }

    private static String inBrackets(Class<?>[] types) {
        String text = Arrays.toString(types);
        return "(" + text.substring(1, text.length() - 1) + ")";
    }
}
