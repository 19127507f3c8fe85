/** Promise 12: what look tells. */
public final class Promise12LookTest {
    private static final String PROMISE = "Promise 12: look";

    public static void main(String[] args) {
        Sentences.run(Promise12LookTest.class);
    }

    @Holds(under = PROMISE, words = "which 0: bytes of the INPUT")
    static void theBytesGivenAreCounted(Due due) {
        SegmentReader x = new SegmentReader();
        due.is("look(0)", x.look(0), 0);
        x.give(0L, 1);
        due.is("look(0)", x.look(0), 1);
        x.give(0L, 8);
        due.is("look(0)", x.look(0), 9);
        x.give(0L, 9);
        due.is("look(0)", x.look(0), 9);
        x.read();
        due.is("look(0)", x.look(0), 9);
        x.wipe();
        due.is("look(0)", x.look(0), 0);
    }

    @Holds(under = PROMISE, words = "which 0: bytes of the INPUT")
    static void fourThousandBytesAreCounted(Due due) {
        SegmentReader x = new SegmentReader();
        for (int i = 1; i <= 250; i++) {
            x.give(-1L, 8);
            due.is("look(0)", x.look(0), 8 * i);
        }
    }

    @Holds(under = PROMISE, words = "1: the fault of the latest read()")
    static void theFaultIsThatOfTheLatestRead(Due due) {
        SegmentReader x = new SegmentReader();
        x.read();
        due.is("look(1)", x.look(1), 1);
        x.give(7L, 1);
        x.read();
        due.is("look(1)", x.look(1), 2);
        x.wipe();
        FileMaker.scanned().end().giveTo(x);
        x.read();
        due.is("look(1)", x.look(1), 0);
    }

    @Holds(under = PROMISE, words = "(0 without one, or if there was no read())")
    static void thereIsNoFaultAheadOfReadAndBehindAFile(Due due) {
        due.is("look(1)", new SegmentReader().look(1), 0);
        due.is("look(1)", new FileMaker().put(7).given().look(1), 0);
        due.is("look(1)", due.right("read", FileMaker.scanned().end()).look(1), 0);
    }

    @Holds(under = PROMISE, words = "2: its place (NONE without one)")
    static void theFaultsPlaceIsTold(Due due) {
        SegmentReader x = new SegmentReader();
        due.is("look(2)", x.look(2), -1);
        x.read();
        due.is("look(2)", x.look(2), 0);
        x.give(0xFFD8L, 2);
        due.is("look(2)", x.look(2), -1);
        x.read();
        due.is("look(2)", x.look(2), 2);
        due.is("look(2)", due.right("read", FileMaker.scanned().end()).look(2), -1);
    }

    @Holds(under = PROMISE, words = "2: its place (NONE without one)")
    static void aPlaceFarBehindIsTold(Due due) {
        FileMaker made = FileMaker.begun().segment(224, new int[3000]);
        due.fault("behind 3000 bytes", made.put(9), 3, 3006);
    }

    @Holds(under = PROMISE, words = "3: SEGMENTS, 4: SCANS")
    static void segmentsAndScansAreCounted(Due due) {
        SegmentReader x = new SegmentReader();
        due.is("look(3)", x.look(3), 0);
        due.is("look(4)", x.look(4), 0);
        x = due.right("one SCAN", FileMaker.scanned().put(1).end());
        due.is("look(3)", x.look(3), 5);
        due.is("look(4)", x.look(4), 1);
        x = due.right("three SCANS", FileMaker.framed(194).scan(0, 0, 1, 1).segment(254).scan(0, 0, 0x10, 1)
            .put(1).scan(1, 63, 0, 1).end());
        due.is("look(3)", x.look(3), 8);
        due.is("look(4)", x.look(4), 3);
        x = FileMaker.scanned().put(1).given();
        x.read();
        due.is("look(3) behind a fault", x.look(3), 0);
        due.is("look(4) behind a fault", x.look(4), 0);
    }

    @Holds(under = PROMISE, words = "5: the INTERVAL at the end")
    static void theLatestIntervalIsTold(Due due) {
        due.is("look(5) without one", due.right("read", FileMaker.scanned().end()).look(5), 0);
        FileMaker made = FileMaker.begun().segment(221, 0, 7).quantisers(0, 1).words(0, 1).words(16, 1)
            .frame(192, 16, 0x11, 1).scan(0, 63, 0, 1);
        due.is("look(5)", due.right("read", made.copy().end()).look(5), 7);
        due.is("look(5)", due.right("read", made.copy().segment(221, 1, 2).end()).look(5), 258);
        due.is("look(5)", due.right("read", made.copy().segment(221, 255, 255).end()).look(5), 65535);
        due.is("look(5)", due.right("read", made.copy().segment(221, 0, 0).end()).look(5), 0);
        due.is("look(5)", due.right("read", made.copy().end().segment(221, 0, 9)).look(5), 7);
        SegmentReader x = made.given();
        due.is("look(5) ahead of read()", x.look(5), 0);
        x.read();
        due.is("look(5) behind a fault", x.look(5), 0);
    }

    @Holds(under = PROMISE, words = "6: where the FILE ends, behind its MARKER 217 (NONE without one).")
    static void theEndIsBehindTheMarker(Due due) {
        FileMaker made = FileMaker.scanned().put(1, 2);
        int size = made.size();
        due.is("look(6)", due.right("read", made.copy().end()).look(6), size + 2);
        due.is("look(6)", due.right("read", made.copy().put(255, 255).end()).look(6), size + 4);
        due.is("look(6)", due.right("read", made.copy().end().put(1, 2, 255, 217)).look(6), size + 2);
    }

    @Holds(under = PROMISE, words = "6: where the FILE ends, behind its MARKER 217 (NONE without one).")
    static void thereIsNoEndWithoutAFile(Due due) {
        SegmentReader x = FileMaker.scanned().end().given();
        due.is("look(6) ahead of read()", x.look(6), -1);
        x.read();
        due.is("look(6)", x.look(6), x.look(0));
        x.give(1L, 1);
        due.is("look(6) behind give", x.look(6), -1);
        SegmentReader y = FileMaker.framed(192).end().given();
        y.read();
        due.is("look(6) behind a fault at 217", y.look(6), -1);
    }

    @Holds(under = PROMISE, words = "NONE for any other which.")
    static void thereIsNoWhichBeside0To6(Due due) {
        FileMaker made = FileMaker.scanned().segment(221, 0, 5).end();
        SegmentReader x = due.right("read", made);
        due.row("look", x::look, made.size(), 0, -1, 6, 1, 5, made.size());
        SegmentReader y = FileMaker.framed(192).given();
        y.read();
        due.row("look behind a fault", y::look, y.look(0), 1, y.look(0), 0, 0, 0, -1);
        due.row("look of a new object", new SegmentReader()::look, 0, 0, -1, 0, 0, 0, -1);
    }
}
