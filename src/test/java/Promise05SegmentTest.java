/** Promise 5: what is told of each SEGMENT. */
public final class Promise05SegmentTest {
    private static final String PROMISE = "Promise 5: segment";

    public static void main(String[] args) {
        Sentences.run(Promise05SegmentTest.class);
    }

    private static void told(Due due, SegmentReader x, int i, int... want) {
        due.part("segment(" + i + ", w)", w -> x.segment(i, w), want);
    }

    @Holds(under = PROMISE, words = "Of SEGMENT i that was read (whole), from 0 on")
    static void theFirstSegmentIs0AndTheLastOneIsTold(Due due) {
        SegmentReader x = due.right("read", FileMaker.begun().segment(224, 1).quantisers(0, 1).words(0, 1)
            .words(16, 1).segment(221, 0, 0).frame(194, 0, 0x11, 1).scan(0, 0, 0, 1).put(1)
            .segment(220, 0, 9).segment(254).end());
        due.is("look(3)", x.look(3), 9);
        due.row("CODE of segment", i -> x.segment(i, 0), 224, 219, 196, 196, 221, 194, 218, 220, 254);
    }

    @Holds(under = PROMISE, words = "w = 0: its CODE")
    static void eachCodeIsTold(Due due) {
        FileMaker made = FileMaker.begun();
        for (int code = 224; code < 240; code++) {
            made.segment(code);
        }
        SegmentReader x = due.right("read", made.put(255, 255).segment(254).quantisers(0, 1).words(0, 1)
            .words(16, 1).frame(192, 16, 0x11, 1).scan(0, 63, 0, 1).end());
        for (int i = 0; i < 16; i++) {
            due.is("segment(" + i + ", 0)", x.segment(i, 0), 224 + i);
        }
        due.is("segment(16, 0) behind three 255s", x.segment(16, 0), 254);
        due.is("segment(20, 0)", x.segment(20, 0), 192);
    }

    @Holds(under = PROMISE, words = "1: the place of its first byte 255")
    static void thePlaceIsThatOfTheFirstOfSeveral255s(Due due) {
        FileMaker made = FileMaker.begun().segment(224).put(255).segment(225).put(255, 255, 255).segment(226, 255)
            .segment(227).quantisers(0, 1).words(0, 1).words(16, 1).frame(192, 16, 0x11, 1).scan(0, 63, 0, 1)
            .put(9, 255, 0);
        int place = made.size();
        SegmentReader x = due.right("read", made.put(255, 255).segment(228).end());
        due.part("place of segment", i -> x.segment(i, 1), 2, 6, 11, 19, 23);
        due.is("behind DATA", x.segment(9, 1), place);
    }

    @Holds(under = PROMISE, words = "2: of its CONTENTS")
    static void theContentsLieBehindTheLength(Due due) {
        SegmentReader x = due.right("read", FileMaker.begun().segment(224).put(255).segment(225, 7)
            .segment(226).quantisers(0, 1).words(0, 1).words(16, 1).frame(192, 16, 0x11, 1)
            .scan(0, 63, 0, 1).end());
        due.part("CONTENTS of segment", i -> x.segment(i, 2), 6, 11, 16, 20);
    }

    @Holds(under = PROMISE, words = "3: how many bytes these have.")
    static void theLengthItselfDoesNotCount(Due due) {
        SegmentReader x = due.right("read", FileMaker.begun().segment(224).segment(225, 1)
            .segment(226, new int[253]).segment(227, new int[254]).segment(228, new int[2000])
            .quantisers(0, 1).words(0, 1).words(16, 3).segment(221, 0, 0)
            .frame(192, 16, 0x11, 1, 2).scan(0, 63, 0, 1, 2).end());
        due.part("bytes of segment", i -> x.segment(i, 3), 0, 1, 253, 254, 2000, 65, 18, 20, 2, 12, 8);
    }

    @Holds(under = PROMISE, words = "3: how many bytes these have.")
    static void theDataOfAScanDoNotCount(Due due) {
        FileMaker made = FileMaker.framed(192);
        int place = made.size();
        SegmentReader x = due.right("read", made.scan(0, 63, 0, 1).put(1, 2, 3, 4, 5).segment(254, 1).end());
        told(due, x, 4, 218, place, place + 4, 6);
        told(due, x, 5, 254, place + 15, place + 19, 1);
    }

    @Holds(under = PROMISE, words = "NONE if there is none such")
    static void thereIsNoneAheadOf0OrBehindTheLast(Due due) {
        SegmentReader x = due.right("read", FileMaker.scanned().put(1).end());
        for (int w = 0; w < 4; w++) {
            due.is("segment(-1, w)", x.segment(-1, w), -1);
            due.is("segment(4, w)", x.segment(4, w) >= 0, true);
            due.is("segment(5, w)", x.segment(5, w), -1);
            due.is("segment(6, w)", x.segment(6, w), -1);
        }
        due.far("segment(i, 0)", i -> x.segment(i, 0));
        due.far("segment(i, 3)", i -> x.segment(i, 3));
    }

    @Holds(under = PROMISE, words = "or no such w.")
    static void thereIsNoWBeside0To3(Due due) {
        SegmentReader x = due.right("read", FileMaker.begun().segment(230, 1, 2).quantisers(0, 1).words(0, 1)
            .words(16, 1).frame(192, 16, 0x11, 1).scan(0, 63, 0, 1).put(1).end());
        due.row("segment(0, w)", w -> x.segment(0, w), 230, 2, 6, 2);
        due.row("segment(5, w)", w -> x.segment(5, w), 218, 134, 138, 6);
    }

    @Holds(under = PROMISE, words = "NONE if there is none such")
    static void thereIsNoneAheadOfReadAndBehindAFault(Due due) {
        SegmentReader x = FileMaker.scanned().given();
        due.none("segment(i, 0)", i -> x.segment(i, 0), 6);
        due.none("segment(0, w)", w -> x.segment(0, w), 5);
        due.is("read()", x.read(), 1);
        due.none("segment(i, 0)", i -> x.segment(i, 0), 6);
        due.none("segment(0, w)", w -> x.segment(0, w), 5);
    }

    @Holds(under = PROMISE, words = "Of SEGMENT i that was read (whole), from 0 on")
    static void asManySegmentsAsCanBeGivenAreTold(Due due) {
        FileMaker made = FileMaker.begun();
        for (int i = 0; i < 960; i++) {
            made.segment(224 + i % 16);
        }
        made.quantisers(0, 1).words(0, 1).words(16, 1).frame(192, 16, 0x11, 1).scan(0, 63, 0, 1).end();
        SegmentReader x = due.right("read", made);
        due.is("look(3)", x.look(3), 965);
        told(due, x, 959, 239, 3838, 3842, 0);
        due.is("the last one", x.segment(964, 0), 218);
        due.is("none more", x.segment(965, 0), -1);
        SegmentReader y = due.right("read", made);
        told(due, y, 15, 239, 62, 66, 0);
        told(due, y, 900, 228, 3602, 3606, 0);
    }
}
