/** Promise 6: what is told of the FRAME. */
public final class Promise06FrameTest {
    private static final String PROMISE = "Promise 6: frame";

    public static void main(String[] args) {
        Sentences.run(Promise06FrameTest.class);
    }

    private static SegmentReader sized(Due due, int height, int width) {
        return due.right("read", FileMaker.withTables().segment(192, 8, 0, height, 0, width, 1, 1, 0x11, 0)
            .scan(0, 63, 0, 1).end());
    }

    private static void greatest(Due due, int h, int v, int... factors) {
        int[] contents = new int[6 + 3 * factors.length];
        contents[0] = 8;
        contents[2] = 9;
        contents[4] = 9;
        contents[5] = factors.length;
        FileMaker scans = new FileMaker();
        for (int c = 0; c < factors.length; c++) {
            contents[6 + 3 * c] = c;
            contents[7 + 3 * c] = factors[c];
            scans.scan(0, 63, 0, c);
        }
        SegmentReader x = due.right("read", FileMaker.withTables().segment(192, contents)
            .append(scans).end());
        due.is("frame(4)", x.frame(4), h);
        due.is("frame(5)", x.frame(5), v);
    }

    @Holds(under = PROMISE, words = "w = 0: its CODE")
    static void theCodeIs192Or194(Due due) {
        due.is("frame(0)", due.right("read", FileMaker.framed(192).scan(0, 63, 0, 1).end()).frame(0), 192);
        due.is("frame(0)", due.right("read", FileMaker.framed(194).scan(0, 0, 0, 1).end()).frame(0), 194);
    }

    @Holds(under = PROMISE, words = "1: WIDTH")
    static void theLeastAndGreatestWidthAreTold(Due due) {
        due.is("frame(1)", sized(due, 7, 1).frame(1), 1);
        due.is("frame(1)", sized(due, 7, 2).frame(1), 2);
        due.is("frame(1)", sized(due, 7, 63).frame(1), 63);
        due.is("frame(1)", sized(due, 7, 64).frame(1), 64);
    }

    @Holds(under = PROMISE, words = "2: HEIGHT (as it is by LINES, too)")
    static void theLeastAndGreatestHeightAreTold(Due due) {
        due.is("frame(2)", sized(due, 1, 7).frame(2), 1);
        due.is("frame(2)", sized(due, 2, 7).frame(2), 2);
        due.is("frame(2)", sized(due, 63, 7).frame(2), 63);
        due.is("frame(2)", sized(due, 64, 7).frame(2), 64);
    }

    @Holds(under = PROMISE, words = "2: HEIGHT (as it is by LINES, too)")
    static void aHeightOf0IsAsLinesTellIt(Due due) {
        for (int height : new int[] {1, 2, 16, 63, 64}) {
            SegmentReader x = due.right("sequential", FileMaker.withTables().frame(192, 0, 0x11, 1, 2)
                .scan(0, 63, 0, 1).put(1).segment(220, 0, height).scan(0, 63, 0, 2).end());
            due.is("frame(2)", x.frame(2), height);
            x = due.right("progressive", FileMaker.withTables().frame(194, 0, 0x11, 1).scan(0, 0, 0, 1)
                .segment(220, 0, height).scan(1, 63, 0, 1).end());
            due.is("frame(2)", x.frame(2), height);
        }
    }

    @Holds(under = PROMISE, words = "3: components")
    static void oneToFourComponentsAreCounted(Due due) {
        FileMaker one = FileMaker.withTables().frame(192, 16, 0x11, 1).scan(0, 63, 0, 1).end();
        FileMaker two = FileMaker.withTables().frame(192, 16, 0x11, 1, 2).scan(0, 63, 0, 1, 2).end();
        FileMaker three = FileMaker.withTables().frame(192, 16, 0x11, 1, 2, 3).scan(0, 63, 0, 1, 2, 3).end();
        FileMaker four = FileMaker.withTables().frame(192, 16, 0x11, 1, 2, 3, 4).scan(0, 63, 0, 1, 2, 3, 4).end();
        due.is("frame(3)", due.right("one", one).frame(3), 1);
        due.is("frame(3)", due.right("two", two).frame(3), 2);
        due.is("frame(3)", due.right("three", three).frame(3), 3);
        due.is("frame(3)", due.right("four", four).frame(3), 4);
    }

    @Holds(under = PROMISE, words = "4: the greatest H, 5: the greatest V.")
    static void theGreatestFactorsAreTold(Due due) {
        greatest(due, 1, 1, 0x11);
        greatest(due, 2, 1, 0x21);
        greatest(due, 1, 2, 0x12);
        greatest(due, 2, 2, 0x22);
        greatest(due, 1, 1, 0x11, 0x11, 0x11, 0x11);
        greatest(due, 2, 2, 0x21, 0x12);
        greatest(due, 2, 2, 0x12, 0x21);
        greatest(due, 2, 1, 0x21, 0x11, 0x11);
        greatest(due, 1, 2, 0x11, 0x11, 0x11, 0x12);
        greatest(due, 2, 2, 0x11, 0x21, 0x11, 0x12);
    }

    @Holds(under = PROMISE, words = "NONE if there is none")
    static void thereIsNoneAheadOfReadAndBehindAFault(Due due) {
        SegmentReader x = FileMaker.scanned().given();
        due.none("frame", x::frame, 7);
        due.is("read()", x.read(), 1);
        due.none("frame", x::frame, 7);
        due.none("frame of a new object", new SegmentReader()::frame, 7);
    }

    @Holds(under = PROMISE, words = "or no such w.")
    static void thereIsNoWBeside0To5(Due due) {
        SegmentReader x = due.right("read", FileMaker.withTables().segment(194, 8, 0, 9, 0, 8, 1, 7, 0x21, 0)
            .scan(0, 0, 0, 7).end());
        due.row("frame", x::frame, 194, 8, 9, 1, 2, 1);
    }
}
