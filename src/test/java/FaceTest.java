import java.lang.reflect.Constructor;
import java.lang.reflect.Field;
import java.lang.reflect.Method;
import java.lang.reflect.Modifier;
import java.util.Set;
import java.util.TreeSet;

/** The class shows what stands under 'The public face' in the document, and nothing else. */
public final class FaceTest {
    private static final Set<String> FACE = Set.of(
        "public static final int NONE", "public static final int FULL", "public TreeCodes()",
        "public int open()", "public int close()", "public int undo()", "public int nodes()",
        "public int openNodes()", "public int parent(int)", "public int depth(int)", "public int size(int)",
        "public int children(int)", "public int child(int,int)", "public int next(int)",
        "public int previous(int)", "public int meet(int,int)", "public int aboveAt(int,int)",
        "public int height(int)", "public int leavesBefore(int)");

    public static void main(String[] args) {
        Due due = new Due();
        Set<String> seen = visibleMembers();
        for (String member : FACE) {
            due.holds("there is " + member, seen.contains(member));
        }
        for (String member : seen) {
            due.holds("the document has " + member, FACE.contains(member));
        }
        int modifiers = TreeCodes.class.getModifiers();
        due.holds("the class is public and final", modifiers == (Modifier.PUBLIC | Modifier.FINAL));
        due.holds("it extends nothing", TreeCodes.class.getSuperclass() == Object.class);
        due.holds("it has no interface", TreeCodes.class.getInterfaces().length == 0);
        due.holds("it has no nested class", TreeCodes.class.getDeclaredClasses().length == 0);
        due.end();
    }

    private static Set<String> visibleMembers() {
        Set<String> seen = new TreeSet<>();
        for (Field field : TreeCodes.class.getDeclaredFields()) {
            if (!Modifier.isPrivate(field.getModifiers())) {
                seen.add(withoutClass(field.toString()));
            }
        }
        for (Method method : TreeCodes.class.getDeclaredMethods()) {
            if (!Modifier.isPrivate(method.getModifiers())) {
                seen.add(withoutClass(method.toString()));
            }
        }
        for (Constructor<?> constructor : TreeCodes.class.getDeclaredConstructors()) {
            if (!Modifier.isPrivate(constructor.getModifiers())) {
                seen.add(constructor.toString());
            }
        }
        return seen;
    }

    private static String withoutClass(String member) {
        return member.replace("TreeCodes.", "");
    }
}
