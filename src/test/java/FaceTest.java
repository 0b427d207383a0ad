import java.lang.reflect.Constructor;
import java.lang.reflect.Field;
import java.lang.reflect.Method;
import java.lang.reflect.Modifier;
import java.util.Set;
import java.util.TreeSet;

/** The class shows what the document's public face has, and nothing else. */
public final class FaceTest {
    private static final Set<String> FACE = Set.of(
            "public KeepTree()",
            "public int KeepTree.setSize(int,int)",
            "public int KeepTree.flip(int,int)",
            "public int KeepTree.setRoot(int,boolean)",
            "public int KeepTree.alive(int)",
            "public int KeepTree.keeper(int)",
            "public int KeepTree.held(int)",
            "public int KeepTree.guards(int,int)",
            "public int KeepTree.depth(int)",
            "public int KeepTree.common(int,int)",
            "public int KeepTree.heaviest()",
            "public int KeepTree.total()");

    private FaceTest() {
    }

    public static void main(String[] args) {
        Set<String> shown = new TreeSet<>();
        for (Constructor<?> constructor : KeepTree.class.getDeclaredConstructors()) {
            addUnlessPrivate(shown, constructor.getModifiers(), constructor.toString());
        }
        for (Method method : KeepTree.class.getDeclaredMethods()) {
            addUnlessPrivate(shown, method.getModifiers(), method.toString());
        }
        for (Field field : KeepTree.class.getDeclaredFields()) {
            addUnlessPrivate(shown, field.getModifiers(), field.toString());
        }
        for (String member : FACE) {
            Checks.due("members that are shown as " + member, shown.remove(member) ? 1 : 0, 1);
        }
        Checks.due("members beyond the document's face " + shown, shown.size(), 0);
        int modifiers = KeepTree.class.getModifiers();
        Checks.due("modifiers of the class", modifiers, Modifier.PUBLIC | Modifier.FINAL);
        Checks.due("classes inside the class", KeepTree.class.getDeclaredClasses().length, 0);
        Checks.end();
    }

    private static void addUnlessPrivate(Set<String> shown, int modifiers, String member) {
        if (!Modifier.isPrivate(modifiers)) {
            shown.add(member);
        }
    }
}
