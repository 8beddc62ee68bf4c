import java.lang.reflect.Constructor;
import java.lang.reflect.Field;
import java.lang.reflect.Method;
import java.lang.reflect.Modifier;
import java.util.Set;
import java.util.TreeSet;

/** The public face: its constants, constructor and methods, and nothing else that can be seen. */
public final class FaceTest {
    public static void main(String[] args) {
        Due.is("BAD", StreamWindows.BAD, -2001);
        Due.is("NONE", StreamWindows.NONE, -2002);
        Due.is("FULL", StreamWindows.FULL, -2003);

        Set<String> want = new TreeSet<>(Set.of(
                "public static final int BAD", "public static final int NONE",
                "public static final int FULL", "public StreamWindows(int,int,int,int)",
                "public int arrive(int,int)", "public int read(int)", "public int readAll()",
                "public int idle(int,boolean)", "public int position(int)", "public int mark()",
                "public int results()", "public int result(int,int)", "public int late()",
                "public int open(int)", "public int pending(int)", "public int keep()",
                "public int crash()", "public int kept()", "public int digest()"));
        Set<String> seen = new TreeSet<>();
        for (Field field : StreamWindows.class.getDeclaredFields()) {
            addVisible(seen, field.getModifiers(), field.toString());
        }
        for (Constructor<?> constructor : StreamWindows.class.getDeclaredConstructors()) {
            addVisible(seen, constructor.getModifiers(), constructor.toString());
        }
        for (Method method : StreamWindows.class.getDeclaredMethods()) {
            addVisible(seen, method.getModifiers(), method.toString());
        }
        if (!seen.equals(want)) {
            System.out.println("visible members are " + seen + ", due are " + want);
        }
        Due.is("the visible members are those of the document", seen.equals(want) ? 1 : 0, 1);
        int modifiers = StreamWindows.class.getModifiers();
        Due.is("the class is public and final",
                Modifier.isPublic(modifiers) && Modifier.isFinal(modifiers) ? 1 : 0, 1);
        Due.end();
    }

    private static void addVisible(Set<String> seen, int modifiers, String text) {
        if (!Modifier.isPrivate(modifiers)) {
            seen.add(text.replace("StreamWindows.", ""));
        }
    }
}
