import java.lang.reflect.Constructor;
import java.lang.reflect.Field;
import java.lang.reflect.Member;
import java.lang.reflect.Method;
import java.lang.reflect.Modifier;
import java.util.Set;
import java.util.TreeSet;

/** The class shows the document's public face and nothing beside it, and no name has two meanings. */
public final class FaceTest {
    private static final Set<String> DUE = Set.of(
        "public static final int PebbleFrame.NONE",
        "public static final int PebbleFrame.FULL",
        "public PebbleFrame(int)",
        "public int PebbleFrame.add(int,int)",
        "public boolean PebbleFrame.remove(int)",
        "public int PebbleFrame.bars()",
        "public boolean PebbleFrame.free(int)",
        "public int PebbleFrame.rank(int)",
        "public int PebbleFrame.frame()",
        "public boolean PebbleFrame.rigid()",
        "public int PebbleFrame.freedom()",
        "public boolean PebbleFrame.held(int,int)",
        "public boolean PebbleFrame.redundant(int)",
        "public int PebbleFrame.ring(int)",
        "public int PebbleFrame.heldTo(int)",
        "public int PebbleFrame.bodies()",
        "public boolean PebbleFrame.doublyHeld()");

    public static void main(String[] args) {
        Set<String> found = new TreeSet<>();
        for (Field field : PebbleFrame.class.getDeclaredFields()) {
            note(found, field, field.toString());
        }
        for (Constructor<?> constructor : PebbleFrame.class.getDeclaredConstructors()) {
            note(found, constructor, constructor.toString());
        }
        for (Method method : PebbleFrame.class.getDeclaredMethods()) {
            note(found, method, method.toString());
        }
        boolean shape = PebbleFrame.class.getModifiers() == (Modifier.PUBLIC | Modifier.FINAL)
            && PebbleFrame.class.getSuperclass() == Object.class
            && PebbleFrame.class.getInterfaces().length == 0
            && PebbleFrame.class.getDeclaredClasses().length == 0;
        if (!shape || !found.equals(DUE)) {
            System.out.println("the face is " + found + ", due is " + new TreeSet<>(DUE) + "; shape as due: " + shape);
            System.exit(1);
        }
        Set<String> shared = namesOf(true);
        shared.retainAll(namesOf(false));
        if (!shared.isEmpty()) {
            System.out.println("private methods bear the names of public ones: " + shared);
            System.exit(1);
        }
        System.out.println("the face is as due");
    }

    private static Set<String> namesOf(boolean isPrivate) {
        Set<String> names = new TreeSet<>();
        for (Method method : PebbleFrame.class.getDeclaredMethods()) {
            if (Modifier.isPrivate(method.getModifiers()) == isPrivate) {
                names.add(method.getName());
            }
        }
        return names;
    }

    private static void note(Set<String> found, Member member, String text) {
        if (!Modifier.isPrivate(member.getModifiers())) {
            found.add(text);
        }
    }
}
