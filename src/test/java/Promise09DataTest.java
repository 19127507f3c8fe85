/** Promise 9: the bytes of DATA. */
public final class Promise09DataTest {
    private static final String PROMISE = "Promise 9: data";

    public static void main(String[] args) {
        Sentences.run(Promise09DataTest.class);
    }

    private static void told(Due due, FileMaker made, int... want) {
        SegmentReader x = due.right("read", made.end());
        due.row("data(0, k)", k -> x.data(0, k), want);
    }

    private static FileMaker withInterval() {
        return FileMaker.withTables().segment(221, 0, 1).frame(192, 16, 0x11, 1).scan(0, 63, 0, 1);
    }

    @Holds(under = PROMISE, words = "Byte k of the DATA of SCAN i")
    static void eachByteIsToldFrom0On(Due due) {
        told(due, FileMaker.scanned().put(1, 0, 254, 208, 217, 3), 1, 0, 254, 208, 217, 3);
        told(due, FileMaker.scanned().put(0), 0);
    }

    @Holds(under = PROMISE, words = "Byte k of the DATA of SCAN i")
    static void eachScanHasItsOwn(Due due) {
        SegmentReader x = due.right("read", FileMaker.withTables().frame(192, 16, 0x11, 1, 2, 3)
            .scan(0, 63, 0, 1).put(1, 2, 3).scan(0, 63, 0, 2).scan(0, 63, 0, 3).put(4, 5).end());
        due.row("data(0, k)", k -> x.data(0, k), 1, 2, 3);
        due.row("data(1, k)", k -> x.data(1, k));
        due.row("data(2, k)", k -> x.data(2, k), 4, 5);
    }

    @Holds(under = PROMISE, words = "0 behind a 255 and RESTARTS left out")
    static void the0BehindA255IsLeftOut(Due due) {
        told(due, FileMaker.scanned().put(255, 0), 255);
        told(due, FileMaker.scanned().put(255, 0, 255, 0), 255, 255);
        told(due, FileMaker.scanned().put(255, 0, 0), 255, 0);
        told(due, FileMaker.scanned().put(0, 255, 0, 0, 255, 0, 7), 0, 255, 0, 255, 7);
        told(due, FileMaker.scanned().put(7, 255, 0, 208), 7, 255, 208);
    }

    @Holds(under = PROMISE, words = "0 behind a 255 and RESTARTS left out")
    static void restartsAreLeftOut(Due due) {
        told(due, withInterval().put(255, 208));
        told(due, withInterval().put(255, 208, 9), 9);
        told(due, withInterval().put(9, 255, 208), 9);
        told(due, withInterval().put(1, 255, 208, 255, 209, 2), 1, 2);
        told(due, withInterval().put(255, 0, 255, 208, 255, 0, 255, 209, 0), 255, 255, 0);
        told(due, withInterval().put(255, 0, 208, 255, 208, 209), 255, 208, 209);
    }

    @Holds(under = PROMISE, words = "NONE if there is none.")
    static void thereIsNoneOfAScanThatIsNotThere(Due due) {
        SegmentReader x = due.right("read", FileMaker.scanned().put(1, 2).end());
        due.row("data(i, 0)", i -> x.data(i, 0), 1);
        due.row("data(i, 1)", i -> x.data(i, 1), 2);
    }

    @Holds(under = PROMISE, words = "NONE if there is none.")
    static void thereIsNoneBehindTheLastByte(Due due) {
        told(due, FileMaker.scanned());
        told(due, FileMaker.scanned().put(5).put(255, 255), 5);
        told(due, FileMaker.scanned().put(5).segment(254, 6, 7), 5);
    }

    @Holds(under = PROMISE, words = "NONE if there is none.")
    static void thereIsNoneAheadOfReadAndBehindAFault(Due due) {
        SegmentReader x = FileMaker.scanned().put(1, 2).given();
        due.none("data(0, k)", k -> x.data(0, k), 3);
        due.is("read()", x.read(), 1);
        due.none("data(0, k)", k -> x.data(0, k), 3);
    }

    @Holds(under = PROMISE, words = "Byte k of the DATA of SCAN i")
    static void threeThousandBytesAreTold(Due due) {
        FileMaker made = FileMaker.scanned();
        for (int k = 0; k < 3000; k++) {
            made.put(k % 255);
        }
        SegmentReader x = due.right("read", made.end());
        for (int k : new int[] {0, 254, 255, 1023, 1024, 2047, 2048, 2999}) {
            due.is("data(0, " + k + ")", x.data(0, k), k % 255);
        }
        due.is("data(0, 3000)", x.data(0, 3000), -1);
    }
}
