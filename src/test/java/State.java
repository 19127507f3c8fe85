import java.util.ArrayList;
import java.util.List;
import java.util.function.ToIntFunction;

/** The answers of one object to some 150 calls that change nothing: what can be seen of its state. */
final class State {
    private static final List<String> CALLS = new ArrayList<>();
    private static final List<ToIntFunction<SegmentReader>> ASKED = new ArrayList<>();

    static {
        for (int n = 0; n < 8; n++) {
            int which = n;
            call("look(" + n + ")", x -> x.look(which));
        }
        for (int n = 0; n < 7; n++) {
            int w = n;
            call("frame(" + n + ")", x -> x.frame(w));
        }
        for (int n = 0; n < 20; n++) {
            int i = n % 4 == 3 ? 6 : n % 4;
            int c = n % 4;
            int w = n / 4;
            call("segment(" + i + ", " + w + ")", x -> x.segment(i, w));
            call("component(" + c + ", " + w + ")", x -> x.component(c, w));
        }
        for (int n = 0; n < 20; n++) {
            int w = n < 9 ? n : n + 7;
            call("scan(0, " + w + ")", x -> x.scan(0, w));
            call("scan(1, " + w + ")", x -> x.scan(1, w));
        }
        for (int n = 0; n < 8; n++) {
            int k = n;
            int table = n < 4 ? n : n + 12;
            call("data(0, " + n + ")", x -> x.data(0, k));
            call("quantiser(" + n + ", 0)", x -> x.quantiser(k, 0));
            call("word(" + table + ", 0, 2)", x -> x.word(table, 0, 2));
            call("word(" + table + ", 1, 0)", x -> x.word(table, 1, 0));
        }
    }

    private State() {
    }

    private static void call(String text, ToIntFunction<SegmentReader> asked) {
        CALLS.add(text);
        ASKED.add(asked);
    }

    static int[] of(SegmentReader x) {
        int[] answers = new int[ASKED.size()];
        for (int i = 0; i < answers.length; i++) {
            answers[i] = ASKED.get(i).applyAsInt(x);
        }
        return answers;
    }

    /** What the i-th of the calls answers ahead of any read(). */
    static int withNothingRead(int i, int bytes) {
        switch (call(i)) {
            case "look(0)": return bytes;
            case "look(1)":
            case "look(3)":
            case "look(4)":
            case "look(5)": return 0;
            default: return -1;
        }
    }

    static String call(int i) {
        return CALLS.get(i);
    }
}
