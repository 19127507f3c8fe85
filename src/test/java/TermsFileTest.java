/** Terms: numbers of two bytes, MARKER, FILE, SEGMENT and the SEGMENTS of any CONTENTS. */
public final class TermsFileTest {
    private static final String TERMS = "Terms";

    public static void main(String[] args) {
        Sentences.run(TermsFileTest.class);
    }

    /** What a file can begin with and still be right, with all that it needs behind it. */
    private static FileMaker finished(FileMaker made) {
        return made.quantisers(0, 1).words(0, 1).words(16, 1).frame(192, 16, 0x11, 1).scan(0, 63, 0, 1).put(1).end();
    }

    @Holds(under = TERMS, words = "Numbers of two bytes have the higher one first.")
    static void theHigherByteComesFirst(Due due) {
        SegmentReader x = due.right("LENGTH and INTERVAL", finished(FileMaker.begun()
            .segment(224, new int[0x0203 - 2]).segment(221, 0x12, 0x34)));
        due.is("LENGTH 0x0203", x.segment(0, 3), 0x0201);
        due.is("INTERVAL", x.look(5), 0x1234);
        due.is("INTERVAL of the SCAN", x.scan(0, 8), 0x1234);
        due.fault("HEIGHT 0x1000", FileMaker.begun().segment(192, 8, 16, 0, 0, 9, 1, 1, 0x11, 0), 6, 8);
        due.fault("WIDTH 0x1000", FileMaker.begun().segment(192, 8, 0, 9, 16, 0, 1, 1, 0x11, 0), 6, 10);
    }

    @Holds(under = TERMS, words = "A MARKER is one or more bytes 255 and a byte that is not 255, its CODE.")
    static void aMarkerMayHaveMany255s(Due due) {
        for (int more : new int[] {0, 1, 2, 3, 255, 256, 2000}) {
            SegmentReader x = due.right(more + " more", finished(FileMaker.begun().repeat(255, more).segment(254, 7)));
            due.is("CODE", x.segment(0, 0), 254);
            due.is("place", x.segment(0, 1), 2);
            due.is("CONTENTS", x.segment(0, 2), 6 + more);
        }
    }

    @Holds(under = TERMS, words = "A MARKER is one or more bytes 255 and a byte that is not 255, its CODE.")
    static void eachMarkerMayHaveMoreThanOne255(Due due) {
        due.right("all of them", FileMaker.begun().put(255).quantisers(0, 1).put(255).words(0, 1).put(255, 255)
            .words(16, 1).put(255).segment(221, 0, 1).put(255).frame(192, 0, 0x11, 1).put(255)
            .scan(0, 63, 0, 1).put(1, 255, 208).put(255).segment(220, 0, 9).put(255).end());
    }

    @Holds(under = TERMS, words = "A MARKER is one or more bytes 255 and a byte that is not 255, its CODE.")
    static void aMarkerOf255sAloneIsNone(Due due) {
        due.fault("one", FileMaker.begun().put(255), 1, 3);
        due.fault("two", FileMaker.begun().put(255, 255), 1, 4);
        due.fault("500", FileMaker.begun().repeat(255, 500), 1, 502);
    }

    @Holds(under = TERMS, words = "the MARKER 216 (its first byte being the INPUT's first one, and just one 255)")
    static void theBeginningHasJustOne255(Due due) {
        due.right("one", finished(new FileMaker().put(255, 216)));
        due.fault("two", finished(new FileMaker().put(255, 255, 216)), 2, 0);
        due.fault("none", finished(new FileMaker().put(216)), 2, 0);
        due.fault("something ahead", finished(new FileMaker().put(0, 255, 216)), 2, 0);
    }

    @Holds(under = TERMS, words = "SEGMENTS, and the MARKER 217")
    static void theEndIsTheMarker217(Due due) {
        FileMaker made = finished(FileMaker.begun());
        due.right("217", made);
        due.fault("without it", made.cut(made.size() - 2), 1, made.size() - 2);
        due.fault("half of it", made.cut(made.size() - 1), 1, made.size() - 1);
        due.fault("216 instead", made.cut(made.size() - 1).put(216), 4, made.size() - 1);
    }

    @Holds(under = TERMS, words = "(these two are no SEGMENTS)")
    static void theBeginningAndTheEndAreNotCounted(Due due) {
        SegmentReader x = due.right("read", finished(FileMaker.begun()));
        due.is("look(3)", x.look(3), 5);
        due.row("CODE", i -> x.segment(i, 0), 219, 196, 196, 192, 218);
    }

    @Holds(under = TERMS, words = "what stands behind that is not looked at.")
    static void whatStandsBehindTheEndDoesNotMatter(Due due) {
        FileMaker made = finished(FileMaker.begun());
        int end = made.size();
        for (int value : new int[] {0, 7, 216, 217, 255}) {
            SegmentReader x = due.right("with " + value, made.copy().put(value));
            due.is("look(6)", x.look(6), end);
        }
        SegmentReader x = due.right("another file", made.copy().append(made));
        due.is("look(6)", x.look(6), end);
        due.is("look(3)", x.look(3), 5);
        due.is("look(4)", x.look(4), 1);
        due.right("a wrong SEGMENT", made.copy().put(255, 192, 0, 0));
    }

    @Holds(under = TERMS, words = "A SEGMENT is a MARKER, two bytes LENGTH (itself and the CONTENTS) and the CONTENTS")
    static void aLengthOf2IsThatOfNoContents(Due due) {
        SegmentReader x = due.right("none", finished(FileMaker.begun().put(255, 230, 0, 2)));
        due.is("bytes", x.segment(0, 3), 0);
        x = due.right("one", finished(FileMaker.begun().put(255, 230, 0, 3, 255)));
        due.is("bytes", x.segment(0, 3), 1);
        due.is("the next place", x.segment(1, 1), 7);
        due.fault("below", finished(FileMaker.begun().put(255, 230, 0, 1)), 5, 4);
    }

    @Holds(under = TERMS, words = "A SEGMENT is a MARKER, two bytes LENGTH (itself and the CONTENTS) and the CONTENTS")
    static void theGreatestLengthIs65535(Due due) {
        due.fault("more than is there", FileMaker.begun().put(255, 230, 255, 255).repeat(1, 3000), 1, 3006);
        due.fault("of 32768", FileMaker.begun().put(255, 230, 128, 0).repeat(1, 100), 1, 106);
        SegmentReader x = due.right("of 3002", finished(FileMaker.begun().segment(230, new int[3000])));
        due.is("bytes", x.segment(0, 3), 3000);
    }

    @Holds(under = TERMS, words = "behind a SCAN's SEGMENT its DATA.")
    static void dataStandBehindAScanAlone(Due due) {
        due.right("behind a SCAN", FileMaker.scanned().put(1, 2).end());
        due.fault("behind a FRAME", FileMaker.framed(192).put(1), 3, FileMaker.framed(192).size());
        due.fault("behind QUANTISERS", FileMaker.begun().quantisers(0, 1).put(1), 3, 71);
        FileMaker made = FileMaker.scanned().put(1).segment(254, 5);
        due.fault("behind a SEGMENT behind DATA", made.copy().put(1), 3, made.size());
    }

    @Holds(under = TERMS, words = "224 .. 239 and 254: any CONTENTS.")
    static void anyContentsAreRight(Due due) {
        int[] all = new int[256];
        for (int i = 0; i < 256; i++) {
            all[i] = i;
        }
        for (int code = 224; code < 240; code++) {
            SegmentReader x = due.right("CODE " + code, finished(FileMaker.begun().segment(code, all)));
            due.is("bytes", x.segment(0, 3), 256);
        }
        due.right("CODE 254", finished(FileMaker.begun().segment(254, all)));
        due.right("markers within", finished(FileMaker.begun().segment(254, 255, 217, 255, 192, 255, 255)));
    }

    @Holds(under = TERMS, words = "224 .. 239 and 254: any CONTENTS.")
    static void theCodesBesideTheseCanNotBe(Due due) {
        for (int code : new int[] {222, 223, 240, 241, 252, 253}) {
            due.faultAtOnce("CODE " + code, finished(FileMaker.begun().segment(code, 1)), 4, 3);
        }
    }

    @Holds(under = TERMS, words = "224 .. 239 and 254: any CONTENTS.")
    static void theyCanStandAnywhereBetweenOthers(Due due) {
        due.right("anywhere", FileMaker.begun().segment(254, 1).quantisers(0, 1).segment(224).words(0, 1)
            .segment(239, 2).words(16, 1).frame(192, 16, 0x11, 1, 2).segment(230).scan(0, 63, 0, 1).put(4)
            .segment(254).segment(225, 255).scan(0, 63, 0, 2).segment(254, 217).end());
    }
}
