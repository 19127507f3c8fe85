import java.lang.reflect.Constructor;
import java.lang.reflect.Field;
import java.lang.reflect.Method;
import java.lang.reflect.Modifier;
import java.util.TreeSet;

/** The public face, and nothing beside it. */
public final class FaceTest {
    private static final String[] FACE = {
        "public boolean SegmentReader.give(long,int)",
        "public int SegmentReader.component(int,int)",
        "public int SegmentReader.data(int,int)",
        "public int SegmentReader.frame(int)",
        "public int SegmentReader.look(int)",
        "public int SegmentReader.quantiser(int,int)",
        "public int SegmentReader.read()",
        "public int SegmentReader.scan(int,int)",
        "public int SegmentReader.segment(int,int)",
        "public int SegmentReader.word(int,int,int)",
        "public static final int SegmentReader.NONE",
        "public SegmentReader()",
        "public void SegmentReader.wipe()",
    };

    public static void main(String[] args) {
        Sentences.run(FaceTest.class);
    }

    private static TreeSet<String> members() {
        TreeSet<String> seen = new TreeSet<>();
        for (Method method : SegmentReader.class.getDeclaredMethods()) {
            note(seen, method.getModifiers(), method.toString());
        }
        for (Field field : SegmentReader.class.getDeclaredFields()) {
            note(seen, field.getModifiers(), field.toString());
        }
        for (Constructor<?> constructor : SegmentReader.class.getDeclaredConstructors()) {
            note(seen, constructor.getModifiers(), constructor.toString());
        }
        return seen;
    }

    private static void note(TreeSet<String> seen, int modifiers, String member) {
        if (!Modifier.isPrivate(modifiers)) {
            seen.add(member);
        }
    }

    @Holds(under = "The public face", words = "public final class SegmentReader")
    static void theClassIsPublicAndFinal(Due due) {
        int modifiers = SegmentReader.class.getModifiers();
        due.is("public", Modifier.isPublic(modifiers), true);
        due.is("final", Modifier.isFinal(modifiers), true);
    }

    @Holds(under = "The public face", words = "public SegmentReader(); public boolean give(long v, int n);")
    static void eachMemberIsThereAndNoOther(Due due) {
        TreeSet<String> seen = members();
        for (String member : FACE) {
            due.is(member, seen.remove(member), true);
        }
        due.is("members beside the face " + seen, seen.size(), 0);
    }

    @Holds(under = "Terms", words = "The constants: `NONE = -1`: There is none.")
    static void noneIsMinus1(Due due) {
        due.is("NONE", SegmentReader.NONE, -1);
        due.is("what is not there", new SegmentReader().frame(0), SegmentReader.NONE);
    }
}
