/** Promise 8: what is told of each SCAN. */
public final class Promise08ScanTest {
    private static final String PROMISE = "Promise 8: scan";

    public static void main(String[] args) {
        Sentences.run(Promise08ScanTest.class);
    }

    /** Two SCANS, of the second and third component and of the others, with tables of each number. */
    private static FileMaker two() {
        return FileMaker.withTables().words(1, 1).words(2, 1).words(3, 1).words(17, 1).words(18, 1).words(19, 1)
            .frame(192, 16, 0x11, 10, 11, 12, 13)
            .segment(218, 2, 11, 0x31, 12, 0x03, 0, 63, 0).put(1, 2)
            .segment(218, 2, 10, 0x12, 13, 0x20, 0, 63, 0).put(3).end();
    }

    private static FileMaker withInterval(int interval) {
        return FileMaker.withTables().segment(221, interval >> 8, interval & 255).frame(192, 16, 0x11, 1, 2);
    }

    @Holds(under = PROMISE, words = "Of SCAN i that was read (with its DATA), from 0 on: w = 0: components")
    static void oneToFourComponentsAreCounted(Due due) {
        SegmentReader x = due.right("read", FileMaker.withTables().frame(194, 16, 0x11, 1, 2, 3, 4)
            .scan(0, 0, 2, 1, 2, 3, 4).put(1).scan(0, 0, 0x21, 2, 3, 4).put(1).scan(0, 0, 0x10, 2, 4)
            .scan(0, 0, 0x21, 1).end());
        due.row("scan(i, 0)", i -> x.scan(i, 0), 4, 3, 2, 1);
    }

    @Holds(under = PROMISE, words = "1: FIRST, 2: LAST")
    static void firstAndLastAreTold(Due due) {
        SegmentReader x = due.right("progressive", FileMaker.framed(194).scan(0, 0, 0, 1).scan(1, 1, 0, 1)
            .scan(2, 62, 0, 1).scan(63, 63, 0, 1).end());
        due.row("scan(i, 1)", i -> x.scan(i, 1), 0, 1, 2, 63);
        due.row("scan(i, 2)", i -> x.scan(i, 2), 0, 1, 62, 63);
        SegmentReader y = due.right("sequential", FileMaker.scanned().end());
        due.is("scan(0, 1)", y.scan(0, 1), 0);
        due.is("scan(0, 2)", y.scan(0, 2), 63);
    }

    @Holds(under = PROMISE, words = "3: BEFORE, 4: BITS")
    static void beforeAndBitsAreTold(Due due) {
        FileMaker made = FileMaker.framed(194).scan(0, 0, 13, 1);
        int[] before = new int[14];
        int[] bits = new int[14];
        bits[0] = 13;
        for (int i = 1; i < 14; i++) {
            before[i] = 14 - i;
            bits[i] = 13 - i;
            made.scan(0, 0, 16 * before[i] + bits[i], 1);
        }
        SegmentReader x = due.right("13 .. 0", made.end());
        due.row("scan(i, 3)", i -> x.scan(i, 3), before);
        due.row("scan(i, 4)", i -> x.scan(i, 4), bits);
    }

    @Holds(under = PROMISE, words = "5: the place of its DATA")
    static void theDataBeginBehindTheContents(Due due) {
        FileMaker made = withInterval(0).scan(0, 63, 0, 1);
        int first = made.size();
        made.put(7, 255, 0).put(255).scan(0, 63, 0, 2);
        int second = made.size();
        SegmentReader x = due.right("read", made.end());
        due.row("scan(i, 5)", i -> x.scan(i, 5), first, second);
    }

    @Holds(under = PROMISE, words = "6: how many bytes these have (with RESTARTS)")
    static void allBytesOfTheDataAreCounted(Due due) {
        SegmentReader x = due.right("read", FileMaker.withTables().segment(221, 0, 1)
            .frame(192, 16, 0x11, 1, 2, 3, 4).scan(0, 63, 0, 1).scan(0, 63, 0, 2).put(5)
            .scan(0, 63, 0, 3).put(255, 0, 255, 208, 1, 255, 209).put(255, 255).scan(0, 63, 0, 4)
            .put(255, 0).end());
        due.row("scan(i, 6)", i -> x.scan(i, 6), 0, 1, 7, 2);
    }

    @Holds(under = PROMISE, words = "7: RESTARTS")
    static void restartsAreCountedInEachScan(Due due) {
        SegmentReader x = due.right("read", FileMaker.withTables().segment(221, 0, 1)
            .frame(192, 16, 0x11, 1, 2, 3).scan(0, 63, 0, 1).put(1, 255, 208, 255, 209)
            .scan(0, 63, 0, 2).put(255, 0, 208).scan(0, 63, 0, 3).put(255, 208).end());
        due.row("scan(i, 7)", i -> x.scan(i, 7), 2, 0, 1);
    }

    @Holds(under = PROMISE, words = "7: RESTARTS")
    static void asManyRestartsAsCanBeGivenAreCounted(Due due) {
        FileMaker made = withInterval(1).scan(0, 63, 0, 1, 2);
        for (int i = 0; i < 1900; i++) {
            made.put(255, 208 + i % 8);
        }
        SegmentReader x = due.right("read", made.put(99).end());
        due.is("scan(0, 7)", x.scan(0, 7), 1900);
        due.is("scan(0, 6)", x.scan(0, 6), 3801);
        due.is("data(0, 0)", x.data(0, 0), 99);
        due.is("data(0, 1)", x.data(0, 1), -1);
    }

    @Holds(under = PROMISE, words = "8: the INTERVAL")
    static void theIntervalIsThatOfEachScan(Due due) {
        SegmentReader x = due.right("read", FileMaker.withTables().frame(192, 16, 0x11, 1, 2, 3, 4)
            .scan(0, 63, 0, 1).segment(221, 0, 1).scan(0, 63, 0, 2).segment(221, 255, 255)
            .scan(0, 63, 0, 3).segment(221, 1, 2).segment(221, 0, 0).scan(0, 63, 0, 4).segment(221, 0, 9).end());
        due.row("scan(i, 8)", i -> x.scan(i, 8), 0, 1, 65535, 0);
    }

    @Holds(under = PROMISE, words = "16 + 4 * k: the place of its k-th component in the FRAME")
    static void theComponentsAreToldByTheirPlaceInTheFrame(Due due) {
        SegmentReader x = due.right("read", two());
        due.is("scan(0, 16)", x.scan(0, 16), 1);
        due.is("scan(0, 20)", x.scan(0, 20), 2);
        due.is("scan(1, 16)", x.scan(1, 16), 0);
        due.is("scan(1, 20)", x.scan(1, 20), 3);
        SegmentReader all = due.right("all", FileMaker.withTables().frame(192, 16, 0x11, 9, 7, 8, 0)
            .scan(0, 63, 0, 9, 7, 8, 0).end());
        due.part("scan(0, 16 + 4k)", k -> all.scan(0, 16 + 4 * k), 0, 1, 2, 3, -1);
    }

    @Holds(under = PROMISE, words = "and + 1, + 2 its DC and AC tables.")
    static void theTablesAreTold(Due due) {
        SegmentReader x = due.right("read", two());
        due.part("DC of SCAN 0", k -> x.scan(0, 17 + 4 * k), 3, 0, -1);
        due.part("AC of SCAN 0", k -> x.scan(0, 18 + 4 * k), 1, 3, -1);
        due.part("DC of SCAN 1", k -> x.scan(1, 17 + 4 * k), 1, 2, -1);
        due.part("AC of SCAN 1", k -> x.scan(1, 18 + 4 * k), 2, 0, -1);
    }

    @Holds(under = PROMISE, words = "NONE if there is none such")
    static void thereIsNoneAheadOf0OrBehindTheLast(Due due) {
        SegmentReader x = due.right("read", two());
        for (int w = 0; w < 24; w++) {
            due.is("scan(-1, " + w + ")", x.scan(-1, w), -1);
            due.is("scan(2, " + w + ")", x.scan(2, w), -1);
        }
        due.far("scan(i, 0)", i -> x.scan(i, 0));
        due.far("scan(i, 5)", i -> x.scan(i, 5));
        due.far("scan(i, 16)", i -> x.scan(i, 16));
    }

    @Holds(under = PROMISE, words = "NONE if there is none such, or no such w.")
    static void thereIsNoComponentBehindTheLast(Due due) {
        SegmentReader one = due.right("one", FileMaker.scanned().end());
        SegmentReader pair = due.right("two", two());
        for (int w = 0; w < 60; w++) {
            due.is("scan(0, " + w + ") of one", one.scan(0, w) >= 0, w < 9 || w >= 16 && w < 19);
            due.is("scan(1, " + w + ") of two", pair.scan(1, w) >= 0,
                w < 9 || w >= 16 && w < 19 || w >= 20 && w < 23);
        }
    }

    @Holds(under = PROMISE, words = "or no such w.")
    static void thereIsNoWBetween8And16OrFarOff(Due due) {
        SegmentReader x = due.right("read", FileMaker.withTables().frame(192, 16, 0x11, 1, 2, 3, 4)
            .scan(0, 63, 0, 1, 2, 3, 4).end());
        for (int w = 9; w < 16; w++) {
            due.is("scan(0, " + w + ")", x.scan(0, w), -1);
        }
        for (int w = 19; w < 32; w += 4) {
            due.is("scan(0, " + w + ")", x.scan(0, w), -1);
        }
        for (int w = 32; w < 64; w++) {
            due.is("scan(0, " + w + ")", x.scan(0, w), -1);
        }
        due.is("the last one", x.scan(0, 30), 0);
        due.far("scan(0, w)", w -> x.scan(0, w));
    }

    @Holds(under = PROMISE, words = "NONE if there is none such")
    static void thereIsNoneAheadOfReadAndBehindAFault(Due due) {
        SegmentReader x = FileMaker.scanned().put(1).given();
        due.none("scan(i, 0)", i -> x.scan(i, 0), 3);
        due.none("scan(0, w)", w -> x.scan(0, w), 40);
        due.is("read()", x.read(), 1);
        due.none("scan(i, 0)", i -> x.scan(i, 0), 3);
        due.none("scan(0, w)", w -> x.scan(0, w), 40);
    }

    @Holds(under = PROMISE, words = "Of SCAN i that was read (with its DATA), from 0 on")
    static void asManyScansAsCanBeGivenAreTold(Due due) {
        FileMaker made = FileMaker.framed(194).scan(0, 0, 0, 1);
        for (int k = 1; k <= 27; k++) {
            made.scan(k, k, 13, 1);
            for (int bits = 12; bits >= 0; bits--) {
                made.scan(k, k, 16 * (bits + 1) + bits, 1);
            }
        }
        int end = made.size();
        made.end();
        SegmentReader x = due.right("read", made);
        due.is("look(4)", x.look(4), 379);
        due.part("scan(378, w)", w -> x.scan(378, w), 1, 27, 27, 1, 0, end, 0, 0, 0);
        due.is("scan(379, 0)", x.scan(379, 0), -1);
        SegmentReader y = due.right("read", made);
        due.part("scan(14, w)", w -> y.scan(14, w), 1, 1, 1, 1, 0);
        due.part("scan(15, w)", w -> y.scan(15, w), 1, 2, 2, 0, 13);
    }
}
