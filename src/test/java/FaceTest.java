import java.lang.reflect.Constructor;
import java.lang.reflect.Field;
import java.lang.reflect.Method;
import java.lang.reflect.Modifier;
import java.util.Set;
import java.util.TreeSet;

/** The class shows just what the document's public face has, and nothing else. */
public final class FaceTest {
    private static final String[] FACE = {
        "public static final int PathCoverDag.BAD_VERTEX",
        "public static final int PathCoverDag.BAD_WEIGHT",
        "public PathCoverDag()",
        "public int PathCoverDag.edge(int,int,boolean)",
        "public int PathCoverDag.turn(int,boolean)",
        "public int PathCoverDag.weight(int,int)",
        "public boolean PathCoverDag.above(int,int)",
        "public int PathCoverDag.chains()",
        "public int PathCoverDag.width()",
        "public int PathCoverDag.antichain()",
        "public int PathCoverDag.paths()",
        "public int PathCoverDag.heaviest()",
        "public int PathCoverDag.height()",
        "public int PathCoverDag.heaviestChain()",
        "public int PathCoverDag.antichains()",
        "public int PathCoverDag.apart()",
    };

    public static void main(String[] args) {
        Set<String> shown = new TreeSet<>();
        for (Field f : PathCoverDag.class.getDeclaredFields()) {
            if (!Modifier.isPrivate(f.getModifiers())) {
                shown.add(f.toString());
            }
        }
        for (Constructor<?> c : PathCoverDag.class.getDeclaredConstructors()) {
            shown.add(c.toString());
        }
        for (Method m : PathCoverDag.class.getDeclaredMethods()) {
            if (!Modifier.isPrivate(m.getModifiers())) {
                shown.add(m.toString());
            }
        }
        Check check = new Check();
        for (String member : FACE) {
            check.due("shown: " + member, shown.contains(member), true);
        }
        check.due("members shown", shown.size(), FACE.length);
        int modifiers = PathCoverDag.class.getModifiers();
        check.due("public final class", modifiers, Modifier.PUBLIC | Modifier.FINAL);
        check.end();
    }
}
