import java.lang.reflect.Constructor;
import java.lang.reflect.Field;
import java.lang.reflect.Method;
import java.lang.reflect.Modifier;
import java.util.Set;
import java.util.TreeSet;

/** The class has the public face of the document, and nothing else that is not private. */
public final class FaceTest {
    private static final Set<String> FACE = Set.of(
            "public static final int BAD",
            "public static final int FULL",
            "public static final int NONE",
            "public TransitRounds()",
            "public int trip(int,int)",
            "public int call(int,int)",
            "public int cancel(int)",
            "public boolean delay(int,int,int)",
            "public boolean walk(int,int,int)",
            "public int arrival(int,int,int,int)",
            "public int fewest(int,int,int)",
            "public int choices(int,int,int)",
            "public int leave(int,int,int)",
            "public int within(int,int,int)");

    public static void main(String[] args) {
        Set<String> seen = new TreeSet<>();
        Class<?> type = TransitRounds.class;
        for (Field field : type.getDeclaredFields()) {
            if (!Modifier.isPrivate(field.getModifiers())) {
                seen.add(shortened(field.toGenericString()));
            }
        }
        for (Constructor<?> constructor : type.getDeclaredConstructors()) {
            if (!Modifier.isPrivate(constructor.getModifiers())) {
                seen.add(shortened(constructor.toGenericString()));
            }
        }
        for (Method method : type.getDeclaredMethods()) {
            if (!Modifier.isPrivate(method.getModifiers())) {
                seen.add(shortened(method.toGenericString()));
            }
        }
        boolean asDue = seen.equals(FACE) && type.getModifiers() == (Modifier.PUBLIC | Modifier.FINAL)
                && type.getSuperclass() == Object.class && type.getInterfaces().length == 0
                && type.getDeclaredClasses().length == 0;
        System.out.println(asDue ? "the face is as due" : "the face is not as due: " + type.toGenericString() + " " + seen);
        if (!asDue) {
            System.exit(1);
        }
    }

    private static String shortened(String member) {
        return member.replace("TransitRounds.", "");
    }
}
