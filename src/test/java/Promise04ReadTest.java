/** Promise 4: what read() answers, and what it leaves. */
public final class Promise04ReadTest {
    private static final String PROMISE = "Promise 4: read";

    public static void main(String[] args) {
        Sentences.run(Promise04ReadTest.class);
    }

    /** A file that tells something of all that can be told, up to its last MARKER. */
    private static FileMaker full() {
        return FileMaker.withTables().segment(221, 0, 2).frame(192, 16, 0x21, 1, 2).scan(0, 63, 0, 1)
            .put(1, 255, 208, 2);
    }

    /** The fault is told, and all else is as if nothing had been read. */
    private static void leavesTheFaultAlone(Due due, FileMaker made, int fault, int place) {
        SegmentReader x = made.given();
        due.is("fault " + fault + ": read()", x.read(), fault);
        due.is("fault " + fault + ": look(1)", x.look(1), fault);
        due.is("fault " + fault + ": look(2)", x.look(2), place);
        int[] got = State.of(x);
        for (int i = 0; i < got.length; i++) {
            boolean ofFault = State.call(i).equals("look(1)") || State.call(i).equals("look(2)");
            int want = ofFault ? got[i] : State.withNothingRead(i, made.size());
            due.is("fault " + fault + ": " + State.call(i), got[i], want);
        }
    }

    @Holds(under = PROMISE, words = "The INPUT is read: 0 if it is a FILE")
    static void aFileIsAnswered0(Due due) {
        SegmentReader x = due.right("sequential", full().scan(0, 63, 0, 2).end());
        due.is("look(3)", x.look(3), 7);
        due.right("progressive", FileMaker.framed(194).scan(0, 0, 0, 1).end());
        due.right("the shortest of one byte of DATA", FileMaker.scanned().put(0).end());
        due.right("without DATA", FileMaker.scanned().end());
    }

    @Holds(under = PROMISE, words = "else the fault")
    static void eachFaultIsAnsweredByItsNumber(Due due) {
        due.fault("1", full(), 1, full().size());
        due.fault("2", new FileMaker().put(216), 2, 0);
        due.fault("3", FileMaker.begun().put(216), 3, 2);
        due.fault("4", full().end(), 4, full().size() + 1);
        due.fault("5", full().put(255, 254, 0, 0), 5, full().size() + 2);
        due.fault("6", full().scan(1, 63, 0, 2), 6, full().size() + 7);
        due.fault("7", full().scan(0, 63, 0, 1), 7, full().size() + 5);
        due.fault("8", full().segment(218, 1, 2, 1, 0, 63, 0), 8, full().size() + 6);
    }

    @Holds(under = PROMISE, words = "then all but the fault and its place is as ahead of any read().")
    static void aFaultLeavesNothingElse(Due due) {
        leavesTheFaultAlone(due, full(), 1, full().size());
        leavesTheFaultAlone(due, new FileMaker().put(216), 2, 0);
        leavesTheFaultAlone(due, full().segment(254, 1).put(3), 3, full().size() + 5);
        leavesTheFaultAlone(due, full().end(), 4, full().size() + 1);
        leavesTheFaultAlone(due, full().put(255, 221, 0, 5, 0, 7, 0), 5, full().size() + 2);
        leavesTheFaultAlone(due, full().scan(1, 63, 0, 2), 6, full().size() + 7);
        leavesTheFaultAlone(due, full().scan(0, 63, 0, 1), 7, full().size() + 5);
        leavesTheFaultAlone(due, full().segment(218, 1, 2, 1, 0, 63, 0), 8, full().size() + 6);
    }

    @Holds(under = PROMISE, words = "then all but the fault and its place is as ahead of any read().")
    static void halfReadContentsLeaveNothing(Due due) {
        int[] table = FileMaker.quantiserTable(1, 9);
        table[64] = 0;
        leavesTheFaultAlone(due, FileMaker.begun().segment(219, table), 6, 70);
        leavesTheFaultAlone(due, FileMaker.begun().segment(192, 8, 0, 9, 0, 8, 2, 1, 0x22, 1, 1, 0x11, 0), 6, 15);
        leavesTheFaultAlone(due, FileMaker.begun().segment(221, 0, 9, 0), 5, 4);
        leavesTheFaultAlone(due, FileMaker.begun().words(1, 3).words(17, 3).segment(196, 20), 6, 54);
    }

    @Holds(under = PROMISE, words = "The INPUT is read")
    static void readingAgainAnswersTheSame(Due due) {
        FileMaker made = full().scan(0, 63, 0, 2).put(3).end();
        SegmentReader once = due.right("once", made);
        SegmentReader twice = due.right("twice", made);
        due.is("read()", twice.read(), 0);
        due.is("read()", twice.read(), 0);
        due.same("read again", twice, once);
        SegmentReader lines = due.right("LINES", FileMaker.withTables().frame(194, 0, 0x11, 1).scan(0, 0, 1, 1)
            .segment(220, 0, 9).scan(0, 0, 0x10, 1).end());
        due.is("read()", lines.read(), 0);
        due.is("HEIGHT", lines.frame(2), 9);
        SegmentReader fault = full().given();
        due.is("read()", fault.read(), 1);
        due.is("read()", fault.read(), 1);
        due.is("look(2)", fault.look(2), full().size());
    }

    @Holds(under = PROMISE, words = "The INPUT is read")
    static void whatIsReadStaysInTheInput(Due due) {
        FileMaker made = full().scan(0, 63, 0, 2).end().put(1, 2, 3);
        due.is("look(0)", due.right("a file", made).look(0), made.size());
        SegmentReader x = full().given();
        x.read();
        due.is("look(0) behind a fault", x.look(0), full().size());
        x.give(0xFFD9L, 2);
        due.is("the rest is read with it", x.read(), 4);
        due.is("look(2)", x.look(2), full().size() + 1);
    }

    @Holds(under = "What it is", words = "An object is used for at most 512 calls after it has been made")
    static void the512thCallAnswersStill(Due due) {
        FileMaker made = FileMaker.scanned();
        int before = made.size();
        made.repeat(77, 8 * 508 - before - 2).end();
        SegmentReader x = made.given();
        due.is("call 509: read()", x.read(), 0);
        due.is("call 510: look(6)", x.look(6), 4064);
        due.is("call 511: data", x.data(0, 4064 - before - 3), 77);
        due.is("call 512: data", x.data(0, 4064 - before - 2), -1);
    }

    @Holds(under = "What it is", words = "An object is used for at most 512 calls after it has been made")
    static void theLongestInputThatCanBeGivenIsRead(Due due) {
        FileMaker made = FileMaker.scanned();
        SegmentReader x = made.repeat(0, 511 * 8 - made.size() - 2).end().given();
        due.is("call 512: read()", x.read(), 0);
    }
}
