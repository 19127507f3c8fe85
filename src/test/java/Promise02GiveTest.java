/** Promise 2: bytes come to the INPUT, or are refused. */
public final class Promise02GiveTest {
    private static final String PROMISE = "Promise 2: give";

    public static void main(String[] args) {
        Sentences.run(Promise02GiveTest.class);
    }

    /** The bytes that come to the INPUT by one give, as they are told as DATA. */
    private static void comeAs(Due due, long v, int n, int... want) {
        SegmentReader x = FileMaker.scanned().given();
        due.is("give(" + v + ", " + n + ")", x.give(v, n), true);
        x.give(0xFFD9L, 2);
        due.is("read()", x.read(), 0);
        due.row("byte of give(" + v + ", " + n + ")", k -> x.data(0, k), want);
    }

    @Holds(under = PROMISE, words = "n bytes of v, 1 .. 8")
    static void eachNumberFrom1To8IsTaken(Due due) {
        SegmentReader x = new SegmentReader();
        int size = 0;
        for (int n = 1; n <= 8; n++) {
            due.is("give of " + n, x.give(0x0102030405060708L, n), true);
            size += n;
            due.is("look(0)", x.look(0), size);
        }
    }

    @Holds(under = PROMISE, words = "the highest first (of its lowest n)")
    static void theLowestBytesComeTheHighestFirst(Due due) {
        long v = 0x8182838485868788L;
        comeAs(due, v, 1, 0x88);
        comeAs(due, v, 2, 0x87, 0x88);
        comeAs(due, v, 3, 0x86, 0x87, 0x88);
        comeAs(due, v, 4, 0x85, 0x86, 0x87, 0x88);
        comeAs(due, v, 5, 0x84, 0x85, 0x86, 0x87, 0x88);
        comeAs(due, v, 6, 0x83, 0x84, 0x85, 0x86, 0x87, 0x88);
        comeAs(due, v, 7, 0x82, 0x83, 0x84, 0x85, 0x86, 0x87, 0x88);
        comeAs(due, v, 8, 0x81, 0x82, 0x83, 0x84, 0x85, 0x86, 0x87, 0x88);
    }

    @Holds(under = PROMISE, words = "the highest first (of its lowest n)")
    static void theLeastAndGreatestNumbersAreTaken(Due due) {
        comeAs(due, Long.MIN_VALUE, 8, 128, 0, 0, 0, 0, 0, 0, 0);
        comeAs(due, Long.MIN_VALUE, 7, 0, 0, 0, 0, 0, 0, 0);
        comeAs(due, 0L, 8, 0, 0, 0, 0, 0, 0, 0, 0);
        comeAs(due, Long.MAX_VALUE - 255L, 1, 0);
        comeAs(due, -2L, 1, 254);
        comeAs(due, 256L, 1, 0);
        comeAs(due, 1L << 32, 4, 0, 0, 0, 0);
        comeAs(due, 1L << 32, 5, 1, 0, 0, 0, 0);
        comeAs(due, 1L << 31, 4, 128, 0, 0, 0);
    }

    @Holds(under = PROMISE, words = "come to the INPUT: true")
    static void theyComeBehindWhatWasGiven(Due due) {
        SegmentReader x = FileMaker.scanned().given();
        due.is("give", x.give(0x0A0BL, 2), true);
        due.is("give", x.give(0x0CL, 1), true);
        due.is("give", x.give(0x0D0E0FL, 3), true);
        due.is("give", x.give(0xFFL, 1), true);
        due.is("give", x.give(0xD9L, 1), true);
        due.is("read()", x.read(), 0);
        due.row("data", k -> x.data(0, k), 10, 11, 12, 13, 14, 15);
    }

    @Holds(under = PROMISE, words = "false if n is not as said")
    static void noBytesAreRefused(Due due) {
        SegmentReader x = new SegmentReader();
        due.is("give(1, 0)", x.give(1L, 0), false);
        due.is("give(1, -1)", x.give(1L, -1), false);
        due.is("give(1, -8)", x.give(1L, -8), false);
        due.is("give(1, least)", x.give(1L, Integer.MIN_VALUE), false);
        due.is("look(0)", x.look(0), 0);
    }

    @Holds(under = PROMISE, words = "false if n is not as said")
    static void nineBytesAndMoreAreRefused(Due due) {
        SegmentReader x = new SegmentReader();
        for (int n : new int[] {9, 10, 16, 64, 256, 257, 65537, Integer.MAX_VALUE}) {
            due.is("give(1, " + n + ")", x.give(1L, n), false);
        }
        due.is("look(0)", x.look(0), 0);
    }

    /**
     * 512 calls can't fill the INPUT, and what later ones answer is free; this is how the words
     * most plainly have it all the same.
     */
    @Holds(under = PROMISE, words = "or there is no room.")
    static void whatHasNoRoomIsRefusedWhole(Due due) {
        SegmentReader x = new SegmentReader();
        for (int i = 0; i < 2047; i++) {
            x.give(0xFFD8FFE000020000L, 8);
        }
        due.is("the last but one", x.give(5L, 7), true);
        due.is("read()", x.read(), 3);
        for (int n = 2; n <= 8; n++) {
            due.is("no room for " + n, x.give(5L, n), false);
        }
        due.is("look(0)", x.look(0), 16383);
        due.is("the fault stays", x.look(1), 3);
        due.is("its place stays", x.look(2), 6);
    }

    @Holds(under = "Terms", words = "THE INPUT has up to 16384 bytes.")
    static void theLast16384thByteIsTaken(Due due) {
        SegmentReader x = new SegmentReader();
        for (int i = 0; i < 2047; i++) {
            x.give(0L, 8);
        }
        due.is("up to 16383", x.give(5L, 7), true);
        due.is("the last one", x.give(5L, 1), true);
        due.is("look(0)", x.look(0), 16384);
        due.is("one more", x.give(5L, 1), false);
        due.is("look(0)", x.look(0), 16384);
        x.wipe();
        due.is("room again", x.give(5L, 8), true);
        due.is("look(0)", x.look(0), 8);
    }

    @Holds(under = PROMISE, words = "(All is as ahead of any read() then.)")
    static void bytesBehindAFileMakeItForgotten(Due due) {
        FileMaker file = FileMaker.scanned().put(1, 2).segment(221, 0, 3).end();
        SegmentReader x = due.right("read", file);
        due.is("give", x.give(0L, 1), true);
        due.nothingRead("given behind", x, file.size() + 1);
        due.is("and it can be read again", x.read(), 0);
        due.is("look(6)", x.look(6), x.look(0) - 1);
    }

    @Holds(under = PROMISE, words = "(All is as ahead of any read() then.)")
    static void bytesBehindAFaultMakeItForgotten(Due due) {
        FileMaker file = FileMaker.scanned().put(1, 2);
        SegmentReader x = file.given();
        due.is("read()", x.read(), 1);
        due.is("give", x.give(0xFFL, 1), true);
        due.nothingRead("given behind", x, file.size() + 1);
        due.is("look(1)", x.look(1), 0);
        due.is("look(2)", x.look(2), -1);
        due.is("give", x.give(0xD9L, 1), true);
        due.is("the whole file", x.read(), 0);
    }
}
