import java.lang.reflect.Constructor;
import java.lang.reflect.Field;
import java.lang.reflect.Method;
import java.lang.reflect.Modifier;
import java.util.Arrays;
import java.util.Set;
import java.util.TreeSet;

/** The class shows the document's face, and no other member that is not private. */
public final class FaceTest {
    private static final Set<String> FACE = new TreeSet<>(Arrays.asList(
        "public static final int TreeScorer.BAD",
        "public static final int TreeScorer.FULL",
        "public TreeScorer()",
        "public int TreeScorer.split(int,int,int,int)",
        "public boolean TreeScorer.setValue(int,int,int)",
        "public boolean TreeScorer.clear(int)",
        "public int TreeScorer.leaves(int)",
        "public int TreeScorer.value(int,int)",
        "public int TreeScorer.leafOf(int,int)",
        "public int TreeScorer.score(int)",
        "public int TreeScorer.depth(int)",
        "public int TreeScorer.leavesAlong(int,int,int)",
        "public int TreeScorer.bestValue(int,int)",
        "public int TreeScorer.reachable(int)",
        "public int TreeScorer.range(int,int,int,int)",
        "public int TreeScorer.asks(int)"));

    public static void main(String[] args) {
        Due due = new Due();
        Set<String> seen = new TreeSet<>();
        Set<String> open = new TreeSet<>();
        for (Constructor<?> made : TreeScorer.class.getDeclaredConstructors()) {
            note(seen, made.getModifiers(), made.toString());
        }
        for (Field field : TreeScorer.class.getDeclaredFields()) {
            note(seen, field.getModifiers(), field.toString());
        }
        for (Method method : TreeScorer.class.getDeclaredMethods()) {
            note(seen, method.getModifiers(), method.toString());
            if (!Modifier.isPrivate(method.getModifiers())) {
                open.add(method.getName());
            }
        }
        for (Method method : TreeScorer.class.getDeclaredMethods()) {
            if (Modifier.isPrivate(method.getModifiers())) {
                due.is("private method with a public one's name: " + method, open.contains(method.getName()), false);
            }
        }
        for (String member : FACE) {
            due.is("shows " + member, seen.contains(member), true);
        }
        for (String member : seen) {
            due.is("may show " + member, FACE.contains(member), true);
        }
        int kind = TreeScorer.class.getModifiers();
        due.is("public", Modifier.isPublic(kind), true);
        due.is("final", Modifier.isFinal(kind), true);
        due.is("nested classes", TreeScorer.class.getDeclaredClasses().length, 0);
        due.end();
    }

    private static void note(Set<String> seen, int modifiers, String text) {
        if (!Modifier.isPrivate(modifiers)) {
            seen.add(text);
        }
    }
}
