import java.lang.reflect.Constructor;
import java.lang.reflect.Field;
import java.lang.reflect.Method;
import java.lang.reflect.Modifier;
import java.util.Set;
import java.util.TreeSet;

/** The public face: what the document shows, and no other member that is not private. */
public final class FaceTest {
    public static void main(String[] args) {
        Due.is("public final", CountDesk.class.getModifiers() & (Modifier.PUBLIC | Modifier.FINAL),
                Modifier.PUBLIC | Modifier.FINAL);
        Set<String> want = new TreeSet<>(Set.of(
                "public static final int CountDesk.NONE", "public CountDesk()",
                "public void CountDesk.clear()", "public boolean CountDesk.put(int)",
                "public int CountDesk.add(int,int)", "public int CountDesk.goal(int,int)",
                "public int CountDesk.take(int,int,int,int)", "public int CountDesk.kind(int)",
                "public int CountDesk.switches(int)", "public int CountDesk.arms(int,int)",
                "public int CountDesk.fits(int)", "public int CountDesk.node(int,int)"));
        Set<String> seen = seen();
        Due.is("the face " + seen, seen.equals(want), true);
        Due.is("NONE", CountDesk.NONE, -1);
        Due.finish();
    }

    private static Set<String> seen() {
        Set<String> seen = new TreeSet<>();
        for (Field field : CountDesk.class.getDeclaredFields()) {
            note(seen, field.getModifiers(), field.toString());
        }
        for (Method method : CountDesk.class.getDeclaredMethods()) {
            note(seen, method.getModifiers(), method.toString());
        }
        for (Constructor<?> constructor : CountDesk.class.getDeclaredConstructors()) {
            note(seen, constructor.getModifiers(), constructor.toString());
        }
        return seen;
    }

    private static void note(Set<String> seen, int modifiers, String text) {
        if (!Modifier.isPrivate(modifiers)) {
            seen.add(text);
        }
    }
}
