/** Promise 7: what is told of the FRAME's components. */
public final class Promise07ComponentTest {
    private static final String PROMISE = "Promise 7: component";

    public static void main(String[] args) {
        Sentences.run(Promise07ComponentTest.class);
    }

    private static SegmentReader four(Due due) {
        return due.right("read", FileMaker.withTables().quantisers(1, 2).quantisers(2, 3).quantisers(3, 4)
            .segment(192, 8, 0, 9, 0, 8, 4, 200, 0x12, 3, 0, 0x21, 1, 255, 0x22, 0, 3, 0x11, 2)
            .scan(0, 63, 0, 200, 0, 255, 3).end());
    }

    @Holds(under = PROMISE, words = "Of the FRAME's component c: w = 0: its name")
    static void namesFrom0To255AreTold(Due due) {
        SegmentReader x = four(due);
        due.row("component(c, 0)", c -> x.component(c, 0), 200, 0, 255, 3);
    }

    @Holds(under = PROMISE, words = "1: H, 2: V")
    static void theFactorsAreTold(Due due) {
        SegmentReader x = four(due);
        due.row("component(c, 1)", c -> x.component(c, 1), 1, 2, 2, 1);
        due.row("component(c, 2)", c -> x.component(c, 2), 2, 1, 2, 1);
    }

    @Holds(under = PROMISE, words = "3: its table.")
    static void theTableIsTold(Due due) {
        SegmentReader x = four(due);
        due.row("component(c, 3)", c -> x.component(c, 3), 3, 1, 0, 2);
    }

    @Holds(under = PROMISE, words = "NONE if there is none such")
    static void thereIsNoneBehindTheLast(Due due) {
        SegmentReader one = due.right("one", FileMaker.scanned().end());
        due.row("component(c, 0)", c -> one.component(c, 0), 1);
        due.row("component(c, 3)", c -> one.component(c, 3), 0);
        due.is("component(2, 1)", one.component(2, 1), -1);
        due.is("component(3, 2)", one.component(3, 2), -1);
        SegmentReader three = due.right("three", FileMaker.withTables().frame(192, 16, 0x11, 1, 2, 3)
            .scan(0, 63, 0, 1, 2, 3).end());
        due.row("component(c, 1)", c -> three.component(c, 1), 1, 1, 1);
    }

    @Holds(under = PROMISE, words = "NONE if there is none such")
    static void thoseOfALongerFrameAreGone(Due due) {
        SegmentReader x = four(due);
        x.wipe();
        FileMaker.scanned().end().giveTo(x);
        due.is("read()", x.read(), 0);
        due.row("component(c, 0)", c -> x.component(c, 0), 1);
    }

    @Holds(under = PROMISE, words = "NONE if there is none such")
    static void thereIsNoneAheadOfReadAndBehindAFault(Due due) {
        SegmentReader x = FileMaker.scanned().given();
        due.none("component(c, 0)", c -> x.component(c, 0), 5);
        due.none("component(0, w)", w -> x.component(0, w), 5);
        due.is("read()", x.read(), 1);
        due.none("component(c, 0)", c -> x.component(c, 0), 5);
        due.none("component(0, w)", w -> x.component(0, w), 5);
    }

    @Holds(under = PROMISE, words = "or no such w.")
    static void thereIsNoWBeside0To3(Due due) {
        SegmentReader x = four(due);
        due.row("component(0, w)", w -> x.component(0, w), 200, 1, 2, 3);
        due.row("component(2, w)", w -> x.component(2, w), 255, 2, 2, 0);
        due.row("component(3, w)", w -> x.component(3, w), 3, 1, 1, 2);
    }
}
