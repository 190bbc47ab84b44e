import java.lang.reflect.Constructor;
import java.lang.reflect.Field;
import java.lang.reflect.Method;
import java.lang.reflect.Modifier;
import java.util.Set;
import java.util.TreeSet;

/** The public face is the document's, and nothing beside it can be seen from outside the class. */
public final class FaceTest {
    private static final Set<String> DUE = Set.of(
        "public static final int NONE", "public static final int MANY", "public BoxGame()",
        "public int draw(int)", "public int back()", "public void restart()", "public int turn()",
        "public int free()", "public int boxes(int)", "public int owner(int,int)",
        "public int value()", "public int worth(int)", "public int best()",
        "public int bestEdges()", "public int forecast(int)", "public int playOut(int)");

    private static String plain(String member) {
        return member.replace("BoxGame.", "");
    }

    public static void main(String[] args) {
        Set<String> seen = new TreeSet<>();
        Set<String> missing = new TreeSet<>(DUE);
        for (Field f : BoxGame.class.getDeclaredFields()) {
            if (!Modifier.isPrivate(f.getModifiers())) {
                seen.add(plain(f.toString()));
            }
        }
        for (Constructor<?> c : BoxGame.class.getDeclaredConstructors()) {
            seen.add(plain(c.toString()));
        }
        for (Method m : BoxGame.class.getDeclaredMethods()) {
            if (!Modifier.isPrivate(m.getModifiers())) {
                seen.add(plain(m.toString()));
            }
        }
        missing.removeAll(seen);
        seen.removeAll(DUE);
        int modifiers = BoxGame.class.getModifiers();
        boolean right = missing.isEmpty() && seen.isEmpty() && BoxGame.NONE == -1 && BoxGame.MANY == -100
            && modifiers == (Modifier.PUBLIC | Modifier.FINAL);
        System.out.println(right ? "the face is as due" : "missing: " + missing + ", beyond the document: " + seen
            + ", NONE " + BoxGame.NONE + ", MANY " + BoxGame.MANY + ", modifiers " + Modifier.toString(modifiers));
        if (!right) {
            System.exit(1);
        }
    }
}
