import java.lang.reflect.Constructor;
import java.lang.reflect.Field;
import java.lang.reflect.Member;
import java.lang.reflect.Method;
import java.lang.reflect.Modifier;
import java.util.Set;
import java.util.TreeSet;

/** The public face of the document is there, and nothing else can be seen from outside. */
public final class FaceTest {
    private static final Set<String> FACE = Set.of(
        "public static final int LogStore.NONE",
        "public static final int LogStore.OK",
        "public static final int LogStore.BUSY",
        "public LogStore()",
        "public int LogStore.begin()",
        "public boolean LogStore.put(int,int)",
        "public boolean LogStore.remove(int)",
        "public int LogStore.commit()",
        "public int LogStore.abort()",
        "public void LogStore.sync()",
        "public void LogStore.clean()",
        "public void LogStore.crash()",
        "public boolean LogStore.has(int)",
        "public int LogStore.get(int)",
        "public int LogStore.next(int)",
        "public int LogStore.count()",
        "public int LogStore.safeKeys()",
        "public int LogStore.safeValue(int)",
        "public int LogStore.unsafe()",
        "public int LogStore.pending()");

    private static final Set<String> seen = new TreeSet<>();

    public static void main(String[] args) {
        for (Field field : LogStore.class.getDeclaredFields()) {
            note(field, field.toString());
        }
        for (Constructor<?> constructor : LogStore.class.getDeclaredConstructors()) {
            note(constructor, constructor.toString());
        }
        for (Method method : LogStore.class.getDeclaredMethods()) {
            note(method, method.toString());
        }
        boolean right = seen.equals(FACE) && classIsPublicFinalAndAlone();
        System.out.println(right ? "the face is as due" : "the face is not as due: " + seen);
        if (!right) {
            System.exit(1);
        }
    }

    private static void note(Member member, String text) {
        if (!Modifier.isPrivate(member.getModifiers())) {
            seen.add(text);
        }
    }

    private static boolean classIsPublicFinalAndAlone() {
        int modifiers = LogStore.class.getModifiers();
        return Modifier.isPublic(modifiers)
            && Modifier.isFinal(modifiers)
            && LogStore.class.getDeclaredClasses().length == 0
            && LogStore.class.getPackageName().isEmpty();
    }
}
