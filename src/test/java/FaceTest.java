import java.lang.reflect.Constructor;
import java.lang.reflect.Field;
import java.lang.reflect.Method;
import java.lang.reflect.Modifier;
import java.util.TreeSet;

/** The public face, and nothing beside it. */
public final class FaceTest {
    private static final String[] FACE = {
        "public boolean SegmentReader.give(long,int)",
        "public int SegmentReader.component(int,int)",
        "public int SegmentReader.data(int,int)",
        "public int SegmentReader.frame(int)",
        "public int SegmentReader.look(int)",
        "public int SegmentReader.quantiser(int,int)",
        "public int SegmentReader.read()",
        "public int SegmentReader.scan(int,int)",
        "public int SegmentReader.segment(int,int)",
        "public int SegmentReader.word(int,int,int)",
        "public static final int SegmentReader.NONE",
        "public SegmentReader()",
        "public void SegmentReader.wipe()",
    };

    public static void main(String[] args) {
        Due due = new Due();
        TreeSet<String> seen = new TreeSet<>();
        for (Method method : SegmentReader.class.getDeclaredMethods()) {
            note(seen, method.getModifiers(), method.toString());
        }
        for (Field field : SegmentReader.class.getDeclaredFields()) {
            note(seen, field.getModifiers(), field.toString());
        }
        for (Constructor<?> constructor : SegmentReader.class.getDeclaredConstructors()) {
            note(seen, constructor.getModifiers(), constructor.toString());
        }
        for (String member : FACE) {
            due.is(member, seen.remove(member), true);
        }
        due.is("members beside the face " + seen, seen.size(), 0);
        int modifiers = SegmentReader.class.getModifiers();
        due.is("public final", Modifier.isPublic(modifiers) && Modifier.isFinal(modifiers), true);
        due.is("NONE", SegmentReader.NONE, -1);
        due.end();
    }

    private static void note(TreeSet<String> seen, int modifiers, String member) {
        if (!Modifier.isPrivate(modifiers)) {
            seen.add(member);
        }
    }
}
