import java.lang.reflect.Constructor;
import java.lang.reflect.Field;
import java.lang.reflect.Method;
import java.lang.reflect.Modifier;
import java.util.TreeSet;

/** The class has the document's public face, and every other member is private. */
public final class FaceTests {
    private static final String[] FACE = {
        "public final class WorstWalk",
        "public static final int WorstWalk.NONE",
        "public WorstWalk()",
        "public boolean WorstWalk.cost(int,int)",
        "public boolean WorstWalk.bound(int,int)",
        "public boolean WorstWalk.join(int,int)",
        "public boolean WorstWalk.cut(int,int)",
        "public int WorstWalk.live()",
        "public int WorstWalk.dominators(int)",
        "public boolean WorstWalk.regular()",
        "public int WorstWalk.loop(int)",
        "public int WorstWalk.worst(int)",
        "public int WorstWalk.worstOfAll()",
        "public int WorstWalk.least(int)",
        "public int WorstWalk.visits(int)",
        "public int WorstWalk.costFor(int,int)",
    };

    public static void main(String[] args) {
        TreeSet<String> want = new TreeSet<>(java.util.Arrays.asList(FACE));
        TreeSet<String> got = new TreeSet<>();
        got.add(WorstWalk.class.toGenericString());
        for (Field f : WorstWalk.class.getDeclaredFields()) {
            addUnlessPrivate(got, f.getModifiers(), f.toString());
        }
        for (Constructor<?> c : WorstWalk.class.getDeclaredConstructors()) {
            addUnlessPrivate(got, c.getModifiers(), c.toString());
        }
        for (Method m : WorstWalk.class.getDeclaredMethods()) {
            addUnlessPrivate(got, m.getModifiers(), m.toString());
        }
        if (!got.equals(want)) {
            System.out.println("the face is " + got + ", due is " + want);
            System.exit(1);
        }
        System.out.println("the face is as due");
    }

    private static void addUnlessPrivate(TreeSet<String> face, int modifiers, String member) {
        if (!Modifier.isPrivate(modifiers)) {
            face.add(member);
        }
    }
}
