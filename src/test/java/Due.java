import java.util.function.IntUnaryOperator;

/** Counts the answers of one test that are not the ones that are due. */
final class Due {
    /** Numbers far from all that is there, for which there is NONE. */
    static final int[] FAR = {Integer.MIN_VALUE, Integer.MIN_VALUE + 1, Integer.MIN_VALUE + 16, -65536, -17,
        -16, -5, -2, -1, 5000, 16384, 65536, 1 << 20, 1 << 28, 858993460, 1 << 30, Integer.MAX_VALUE - 15,
        Integer.MAX_VALUE - 1, Integer.MAX_VALUE};

    private int asked = 0;
    private int wrong = 0;

    void is(String call, long got, long want) {
        asked++;
        if (got != want) {
            wrong++;
            System.out.println("  " + call + " answered " + got + ", due is " + want);
        }
    }

    void is(String call, boolean got, boolean want) {
        is(call, got ? 1 : 0, want ? 1 : 0);
    }

    void thrown(Throwable what) {
        wrong++;
        System.out.println("  thrown: " + what);
        what.printStackTrace(System.out);
    }

    /** The file is refused by this fault at this place. */
    void fault(String what, FileMaker made, int number, int place) {
        SegmentReader x = made.given();
        is(what + ": read()", x.read(), number);
        is(what + ": look(1)", x.look(1), number);
        is(what + ": look(2)", x.look(2), place);
    }

    /** As fault, and it is seen at that byte already, whatever stands behind it. */
    void faultAtOnce(String what, FileMaker made, int number, int place) {
        fault(what, made, number, place);
        fault(what + ", cut off there", made.cut(place + 1), number, place);
    }

    SegmentReader right(String what, FileMaker made) {
        SegmentReader x = made.given();
        is(what + ": read()", x.read(), 0);
        is(what + ": look(1)", x.look(1), 0);
        is(what + ": look(2)", x.look(2), -1);
        return x;
    }

    /** The answers for 0, 1 and so on, and NONE for the numbers ahead of them, just behind them and far from them. */
    void row(String call, IntUnaryOperator ask, int... want) {
        part(call, ask, want);
        is(call + " of " + want.length, ask.applyAsInt(want.length), -1);
        far(call, ask);
    }

    void part(String call, IntUnaryOperator ask, int... want) {
        for (int w = 0; w < want.length; w++) {
            is(call + " of " + w, ask.applyAsInt(w), want[w]);
        }
    }

    void far(String call, IntUnaryOperator ask) {
        for (int n : FAR) {
            is(call + " of " + n, ask.applyAsInt(n), -1);
        }
    }

    /** All that can be asked of x is answered as if it had the other's INPUT and past. */
    void same(String when, SegmentReader x, SegmentReader other) {
        int[] got = State.of(x);
        int[] want = State.of(other);
        for (int i = 0; i < want.length; i++) {
            is(when + ": " + State.call(i), got[i], want[i]);
        }
    }

    /** No call tells anything but how many bytes the INPUT has. */
    void nothingRead(String when, SegmentReader x, int bytes) {
        int[] got = State.of(x);
        for (int i = 0; i < got.length; i++) {
            is(when + ": " + State.call(i), got[i], State.withNothingRead(i, bytes));
        }
    }

    /** NONE for each number below the bound, and for those far off. */
    void none(String call, IntUnaryOperator ask, int bound) {
        for (int n = 0; n < bound; n++) {
            is(call + " of " + n, ask.applyAsInt(n), -1);
        }
        far(call, ask);
    }

    int asked() {
        return asked;
    }

    int wrong() {
        return wrong;
    }
}
