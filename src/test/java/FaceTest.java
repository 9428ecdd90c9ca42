import java.lang.reflect.Constructor;
import java.lang.reflect.Field;
import java.lang.reflect.Method;
import java.lang.reflect.Modifier;
import java.util.Arrays;
import java.util.HashSet;
import java.util.Set;
import java.util.TreeSet;

// The class has the document's public face, and nothing else that can be seen from outside.
public final class FaceTest {
    private static final String[] FACE = {
        "public static final int BAD_ARG",
        "public static final int FULL",
        "public static final int NONE",
        "public static final int DONE",
        "public static final int TIRED",
        "public ()",
        "public int put(int, int, int)",
        "public int set(int, int, int, int)",
        "public int clear()",
        "public int size()",
        "public int comeTo(int)",
        "public int meeting(int)",
        "public int under(int, int)",
        "public int knows(int, int)",
        "public int secret(int)",
        "public int bad()",
        "public int safe()",
        "public int run(int, int)",
        "public int steps(int, int)",
        "public int outs(int, int)",
        "public int out(int, int, int)",
        "public int shows(int)",
        "public int leaks()",
    };

    private static String parameters(Class<?>[] types) {
        StringBuilder text = new StringBuilder();
        for (Class<?> type : types) {
            text.append(text.length() == 0 ? "" : ", ").append(type);
        }
        return "(" + text + ")";
    }

    private static Set<String> visibleMembers() {
        Set<String> members = new TreeSet<>();
        for (Field field : SecretFlows.class.getDeclaredFields()) {
            if (!Modifier.isPrivate(field.getModifiers())) {
                members.add(Modifier.toString(field.getModifiers()) + " " + field.getType() + " " + field.getName());
            }
        }
        for (Constructor<?> made : SecretFlows.class.getDeclaredConstructors()) {
            if (!Modifier.isPrivate(made.getModifiers())) {
                members.add(Modifier.toString(made.getModifiers()) + " " + parameters(made.getParameterTypes()));
            }
        }
        for (Method method : SecretFlows.class.getDeclaredMethods()) {
            if (!Modifier.isPrivate(method.getModifiers())) {
                members.add(Modifier.toString(method.getModifiers()) + " " + method.getReturnType() + " "
                        + method.getName() + parameters(method.getParameterTypes()));
            }
        }
        return members;
    }

    private static Set<String> namesTwice() {
        Set<String> seen = new HashSet<>();
        Set<String> twice = new TreeSet<>();
        for (Method method : SecretFlows.class.getDeclaredMethods()) {
            if (!seen.add(method.getName())) {
                twice.add(method.getName());
            }
        }
        return twice;
    }

    public static void main(String[] args) {
        Set<String> wanted = new TreeSet<>(Arrays.asList(FACE));
        Set<String> found = visibleMembers();
        Set<String> missing = new TreeSet<>(wanted);
        missing.removeAll(found);
        Set<String> beyond = new TreeSet<>(found);
        beyond.removeAll(wanted);
        boolean isPublicFinal = SecretFlows.class.getModifiers() == (Modifier.PUBLIC | Modifier.FINAL);
        boolean hasNested = SecretFlows.class.getDeclaredClasses().length != 0;
        if (!missing.isEmpty() || !beyond.isEmpty() || !namesTwice().isEmpty() || !isPublicFinal || hasNested) {
            System.out.println("missing: " + missing + ", not in the document: " + beyond + ", names twice: "
                    + namesTwice() + ", public final: " + isPublicFinal + ", nested classes: " + hasNested);
            System.exit(1);
        }
        System.out.println("the face is as due");
    }
}
