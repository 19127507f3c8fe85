import java.util.Arrays;

/** Terms: each of the FAULTS 1 to 8 with its place, and which one of two is seen first. */
public final class FaultsTest {
    private static final String TERMS = "Terms";

    public static void main(String[] args) {
        Sentences.run(FaultsTest.class);
    }

    private static FileMaker framed(int code, int... names) {
        return FileMaker.withTables().frame(code, 16, 0x11, names);
    }

    @Holds(under = TERMS, words = "the first one that is seen, from the first byte on, counts.")
    static void theFirstOfSeveralFaultsCounts(Due due) {
        due.fault("2 ahead of 3", new FileMaker().put(255, 217, 7), 2, 0);
        due.fault("3 ahead of 4", FileMaker.begun().put(7, 255, 1), 3, 2);
        due.fault("4 ahead of 5", FileMaker.begun().put(255, 1, 0, 0), 4, 3);
        due.fault("5 ahead of 3", FileMaker.begun().put(255, 254, 0, 1, 7), 5, 4);
        due.fault("6 ahead of 6", FileMaker.begun().segment(192, 7, 0, 65, 0, 0, 9), 6, 6);
        due.fault("6 ahead of 1", FileMaker.begun().put(255, 221, 0, 4, 0, 1, 255, 192, 0, 11, 9), 6, 12);
        due.fault("6 in the first table", FileMaker.begun().segment(219, 4, 0, 0), 6, 6);
    }

    @Holds(under = TERMS, words = "1: the INPUT ends where a byte is to be read (its length).")
    static void theInputEndsInEachPlace(Due due) {
        due.fault("nothing", new FileMaker(), 1, 0);
        due.fault("255", new FileMaker().put(255), 1, 1);
        due.fault("216 alone", FileMaker.begun(), 1, 2);
        due.fault("no CODE", FileMaker.begun().put(255), 1, 3);
        due.fault("no LENGTH", FileMaker.begun().put(255, 224), 1, 4);
        due.fault("half a LENGTH", FileMaker.begun().put(255, 224, 0), 1, 5);
        due.fault("half a LENGTH of 0", FileMaker.begun().put(255, 192, 0), 1, 5);
        due.fault("no CONTENTS", FileMaker.begun().put(255, 224, 0, 3), 1, 6);
        due.fault("half the CONTENTS", FileMaker.begun().put(255, 254, 0, 8, 1, 2), 1, 8);
        due.fault("one byte less than all", FileMaker.begun().put(255, 254, 0, 4, 1), 1, 7);
        due.fault("no MARKER behind", FileMaker.begun().put(255, 254, 0, 4, 1, 2), 1, 8);
        due.fault("half an INTERVAL", FileMaker.begun().put(255, 221, 0, 4, 0), 1, 7);
    }

    @Holds(under = TERMS, words = "1: the INPUT ends where a byte is to be read (its length).")
    static void aFileCutOffAnywhereHasFault1(Due due) {
        FileMaker whole = FileMaker.withTables().segment(221, 0, 1).put(255).frame(194, 0, 0x21, 7, 8)
            .scan(0, 0, 1, 7, 8).put(1, 255, 0, 255, 208, 3).segment(220, 0, 16)
            .scan(0, 0, 0x10, 7).scan(1, 63, 0, 8).put(4).segment(254, 1, 2, 3).end();
        due.right("whole", whole);
        for (int size = 0; size < whole.size(); size++) {
            due.fault("cut at " + size, whole.cut(size), 1, size);
        }
    }

    @Holds(under = TERMS, words = "2: the beginning is not MARKER 216 (0).")
    static void theBeginningIsNot216(Due due) {
        for (int code = 0; code < 256; code++) {
            if (code != 216) {
                due.fault("255, " + code, new FileMaker().put(255, code), 2, 0);
            }
            if (code != 255) {
                due.fault(code + " alone", new FileMaker().put(code), 2, 0);
                due.fault(code + ", 216", new FileMaker().put(code, 216), 2, 0);
            }
        }
        due.fault("two 255s", new FileMaker().put(255, 255, 216), 2, 0);
    }

    @Holds(under = TERMS, words = "3: 255 is not there where a MARKER has to begin (the byte there).")
    static void noMarkerBegins(Due due) {
        for (int value = 0; value < 255; value++) {
            due.faultAtOnce(value + " behind 216", FileMaker.begun().put(value, 255, 217), 3, 2);
        }
        due.faultAtOnce("behind CONTENTS", FileMaker.begun().segment(224, 1).put(9, 255), 3, 7);
        due.faultAtOnce("behind no CONTENTS", FileMaker.begun().segment(224).put(0), 3, 6);
        FileMaker made = FileMaker.scanned().put(1).segment(254, 255);
        due.faultAtOnce("217 behind a 255 of CONTENTS", made.copy().put(217), 3, made.size());
        FileMaker lines = FileMaker.withTables().frame(192, 0, 0x11, 1).scan(0, 63, 0, 1).segment(220, 0, 5);
        due.faultAtOnce("behind LINES", lines.copy().put(5), 3, lines.size());
    }

    @Holds(under = TERMS, words = "4: a MARKER that can not be there: none of these")
    static void markersOfOtherCodes(Due due) {
        for (int code = 0; code < 255; code++) {
            boolean known = code == 192 || code == 194 || code == 196 || code == 219 || code == 221
                || code >= 224 && code <= 239 || code == 254;
            due.fault("MARKER " + code, FileMaker.begun().put(255, code), known ? 1 : 4, known ? 4 : 3);
        }
        FileMaker framed = framed(192, 1);
        for (int code = 0; code < 255; code++) {
            boolean known = code == 196 || code == 218 || code == 219 || code == 221
                || code >= 224 && code <= 239 || code == 254;
            due.fault("MARKER " + code + " behind the FRAME", framed.copy().put(255, code), known ? 1 : 4,
                framed.size() + (known ? 2 : 1));
        }
    }

    @Holds(under = TERMS, words = "a second FRAME")
    static void aSecondFrame(Due due) {
        FileMaker made = framed(192, 1);
        due.faultAtOnce("192", made.copy().frame(192, 16, 0x11, 1), 4, made.size() + 1);
        due.faultAtOnce("194", made.copy().frame(194, 16, 0x11, 1), 4, made.size() + 1);
    }

    @Holds(under = TERMS, words = "a SCAN ahead of the FRAME")
    static void aScanAheadOfTheFrame(Due due) {
        FileMaker made = FileMaker.withTables();
        due.faultAtOnce("SCAN", made.copy().scan(0, 63, 0, 1).frame(192, 16, 0x11, 1), 4, made.size() + 1);
    }

    @Holds(under = TERMS, words = "a wrong RESTART or one without an INTERVAL")
    static void aWrongRestart(Due due) {
        FileMaker none = FileMaker.scanned().put(1);
        due.faultAtOnce("without an INTERVAL", none.copy().put(255, 208, 2).end(), 4, none.size() + 1);
        FileMaker made = FileMaker.withTables().segment(221, 0, 1).frame(192, 16, 0x11, 1).scan(0, 63, 0, 1);
        due.faultAtOnce("209 first", made.copy().put(255, 209, 2).end(), 4, made.size() + 1);
        due.faultAtOnce("208 twice", made.copy().put(255, 208, 255, 208).end(), 4, made.size() + 3);
    }

    @Holds(under = TERMS, words = "LINES where they can't be, something else where LINES must be")
    static void linesOutOfPlace(Due due) {
        due.faultAtOnce("ahead of the FRAME", FileMaker.begun().segment(220, 0, 5), 4, 3);
        FileMaker told = FileMaker.scanned();
        due.faultAtOnce("with a HEIGHT", told.copy().segment(220, 0, 16), 4, told.size() + 1);
        FileMaker due220 = FileMaker.withTables().frame(192, 0, 0x11, 1, 2).scan(0, 63, 0, 1);
        due.faultAtOnce("a SCAN instead", due220.copy().scan(0, 63, 0, 2), 4, due220.size() + 1);
        due.faultAtOnce("217 instead", due220.copy().end(), 4, due220.size() + 1);
        due.faultAtOnce("a remark instead", due220.copy().segment(254).segment(220, 0, 5), 4, due220.size() + 1);
    }

    @Holds(under = TERMS, words = "217 without a FRAME")
    static void theEndWithoutAFrame(Due due) {
        due.faultAtOnce("at once", FileMaker.begun().end(), 4, 3);
        FileMaker made = FileMaker.withTables();
        due.faultAtOnce("behind tables", made.copy().end(), 4, made.size() + 1);
    }

    @Holds(under = TERMS, words = "or ahead of all components having been in a SCAN")
    static void theEndAheadOfAllScans(Due due) {
        FileMaker made = framed(192, 1, 2, 3, 4);
        due.faultAtOnce("no SCAN", made.copy().end(), 4, made.size() + 1);
        made.scan(0, 63, 0, 1, 3, 4).put(1);
        due.faultAtOnce("not the second", made.copy().end(), 4, made.size() + 1);
        due.right("all", made.scan(0, 63, 0, 2).end());
        made = framed(192, 1, 2).scan(0, 63, 0, 2);
        due.faultAtOnce("not the first", made.copy().end(), 4, made.size() + 1);
        made = framed(192, 1, 2, 3, 4).scan(0, 63, 0, 1, 2, 3);
        due.faultAtOnce("not the last", made.copy().end(), 4, made.size() + 1);
    }

    @Holds(under = TERMS, words = "(in a progressive FRAME: in one with FIRST 0)")
    static void theEndOfAProgressiveFile(Due due) {
        FileMaker made = framed(194, 1, 2);
        due.faultAtOnce("no SCAN", made.copy().end(), 4, made.size() + 1);
        made.scan(0, 0, 0, 2).scan(1, 63, 0, 2);
        due.faultAtOnce("not the first", made.copy().end(), 4, made.size() + 1);
        due.right("all with FIRST 0", made.scan(0, 0, 3, 1).end());
        due.right("no more is needed", framed(194, 1, 2).scan(0, 0, 13, 1, 2).end());
    }

    @Holds(under = TERMS, words = "having been in a SCAN (in a progressive FRAME: in one with FIRST 0) (its CODE).")
    static void thePlaceOfAMarkerIsThatOfItsCode(Due due) {
        due.faultAtOnce("one 255", FileMaker.begun().put(255, 1), 4, 3);
        due.faultAtOnce("four 255s", FileMaker.begun().put(255, 255, 255, 255, 1), 4, 6);
        due.faultAtOnce("four 255s and 217", FileMaker.begun().put(255, 255, 255).end(), 4, 6);
    }

    @Holds(under = TERMS, words = "5: a LENGTH below 2")
    static void lengthsBelow2(Due due) {
        for (int code : new int[] {192, 194, 196, 219, 221, 224, 239, 254}) {
            for (int length = 0; length < 2; length++) {
                due.fault("LENGTH " + length + " of " + code, FileMaker.begun().put(255, code, 0, length), 5, 4);
                due.fault("behind more 255s", FileMaker.begun().put(255, 255).put(255, code, 0, length).put(1, 2, 3), 5, 6);
            }
        }
        FileMaker made = framed(192, 1);
        due.fault("of a SCAN", made.copy().put(255, 218, 0, 1), 5, made.size() + 2);
        made = FileMaker.withTables().frame(192, 0, 0x11, 1).scan(0, 63, 0, 1);
        due.fault("of LINES", made.copy().put(255, 220, 0, 1), 5, made.size() + 2);
    }

    /** Any LENGTH below or above that of CONTENTS that are right is fault 5, with or without bytes behind. */
    private static void lengths(Due due, String what, FileMaker ahead, int code, int... contents) {
        int place = ahead.size() + 2;
        for (int length = 2; length <= contents.length + 4; length++) {
            if (length == contents.length + 2) {
                continue;
            }
            FileMaker made = ahead.copy().put(255, code).put(0, length);
            made.put(Arrays.copyOf(contents, Math.min(length - 2, contents.length)));
            due.fault(what + " of LENGTH " + length, made.copy(), 5, place);
            due.fault(what + " of LENGTH " + length + " and more", made.put(255, 217), 5, place);
        }
    }

    @Holds(under = TERMS, words = "or one in which the CONTENTS do not end as they should (its first byte")
    static void lengthsBesideThatOfTheContents(Due due) {
        lengths(due, "INTERVAL", FileMaker.begun(), 221, 1, 2);
        lengths(due, "FRAME", FileMaker.begun(), 192, 8, 0, 16, 0, 24, 2, 1, 0x11, 0, 2, 0x22, 3);
        lengths(due, "FRAME", FileMaker.begun(), 194, 8, 0, 16, 0, 24, 1, 1, 0x11, 0);
        lengths(due, "SCAN", framed(192, 1, 2), 218, 2, 1, 0, 2, 0, 0, 63, 0);
        lengths(due, "SCAN", framed(194, 1, 2), 218, 1, 2, 0, 0, 0, 0);
        lengths(due, "LINES", FileMaker.withTables().frame(192, 0, 0x11, 1).scan(0, 63, 0, 1), 220, 0, 16);
    }

    @Holds(under = TERMS, words = "or one in which the CONTENTS do not end as they should (its first byte")
    static void lengthsWithinATable(Due due) {
        int[] two = FileMaker.joined(FileMaker.quantiserTable(2, 7), FileMaker.quantiserTable(3, 7));
        for (int bytes = 0; bytes < two.length; bytes++) {
            FileMaker made = FileMaker.begun().segment(219, Arrays.copyOf(two, bytes)).put(255, 217);
            due.fault("QUANTISERS of " + bytes, made, bytes == 65 ? 4 : 5, bytes == 65 ? 72 : 4);
        }
        int[] words = FileMaker.joined(FileMaker.counts(1, 0, 2), 0, 1);
        int[] both = FileMaker.joined(words, words);
        for (int bytes = 0; bytes < both.length; bytes++) {
            FileMaker made = FileMaker.begun().segment(196, Arrays.copyOf(both, bytes)).put(255, 217);
            due.fault("WORDS of " + bytes, made, bytes == 19 ? 4 : 5, bytes == 19 ? 26 : 4);
        }
    }

    @Holds(under = TERMS, words = "what is wrong within the CONTENTS comes ahead of that)")
    static void wrongContentsComeAheadOfTheirLength(Due due) {
        due.fault("FRAME too long", FileMaker.begun().put(255, 192, 0, 50, 7), 6, 6);
        due.fault("FRAME too short", FileMaker.begun().put(255, 192, 0, 3, 7), 6, 6);
        due.fault("FRAME too long, wrong at its end", FileMaker.begun().put(255, 192, 0, 12)
            .put(8, 0, 9, 0, 9, 1, 1, 0x11, 4, 0), 6, 14);
        due.fault("a second table", FileMaker.begun().put(255, 219, 0, 68).put(FileMaker.quantiserTable(0, 1)).put(4), 6, 71);
        due.fault("a second table", FileMaker.begun().put(255, 196, 0, 21).put(FileMaker.counts(1, 1)).put(5, 15), 6, 24);
        FileMaker lines = FileMaker.withTables().frame(192, 0, 0x11, 1).scan(0, 63, 0, 1);
        due.fault("LINES too long", lines.copy().put(255, 220, 0, 5, 0, 65, 0), 6, lines.size() + 5);
    }

    @Holds(under = TERMS, words = "6: a byte of the CONTENTS that is none that can be there")
    static void aWrongByteIsToldByItsPlace(Due due) {
        int[] contents = {8, 0, 16, 0, 24, 2, 1, 0x11, 0, 2, 0x22, 3};
        for (int at : new int[] {0, 5, 7, 8, 10, 11}) {
            int[] changed = contents.clone();
            changed[at] = 99;
            due.faultAtOnce("byte " + at, FileMaker.begun().segment(192, changed), 6, 6 + at);
            due.faultAtOnce("byte " + at + " behind more 255s", FileMaker.begun().put(255, 255).segment(192, changed), 6, 8 + at);
        }
    }

    @Holds(under = TERMS, words = "the last byte of numbers of two bytes")
    static void aWrongNumberIsToldByItsLastByte(Due due) {
        due.faultAtOnce("HEIGHT 272", FileMaker.begun().segment(192, 8, 1, 16, 0, 24, 1, 1, 0x11, 0), 6, 8);
        due.fault("half a HEIGHT", FileMaker.begun().put(255, 192, 0, 11, 8, 1), 1, 8);
        due.fault("HEIGHT beyond the LENGTH", FileMaker.begun().put(255, 192, 0, 4, 8, 1, 0), 5, 4);
        due.faultAtOnce("WIDTH 280", FileMaker.begun().segment(192, 8, 0, 16, 1, 24, 1, 1, 0x11, 0), 6, 10);
        due.faultAtOnce("WIDTH 0", FileMaker.begun().segment(192, 8, 0, 16, 0, 0, 1, 1, 0x11, 0), 6, 10);
        FileMaker lines = FileMaker.withTables().frame(192, 0, 0x11, 1).scan(0, 63, 0, 1);
        due.faultAtOnce("LINES 257", lines.copy().segment(220, 1, 1), 6, lines.size() + 5);
        due.fault("half LINES", lines.copy().put(255, 220, 0, 4, 1), 1, lines.size() + 5);
        due.fault("LINES beyond the LENGTH", lines.copy().put(255, 220, 0, 3, 1, 1), 5, lines.size() + 2);
    }

    @Holds(under = TERMS, words = "the COUNT or symbol with which it is seen (the last COUNT, if all are 0)")
    static void aWrongTableOfWordsIsToldByItsCountOrSymbol(Due due) {
        due.faultAtOnce("all 0", FileMaker.begun().segment(196, FileMaker.counts(0)), 6, 22);
        due.fault("all 0, the last not there", FileMaker.begun().segment(196, Arrays.copyOf(FileMaker.counts(0), 16)), 5, 4);
        due.faultAtOnce("two of 1 bit", FileMaker.begun().segment(196, FileMaker.counts(0, 2)), 6, 7);
        due.faultAtOnce("two of 1 bit, 257 in all", FileMaker.begun().segment(196, FileMaker.counts(0, 2, 255)), 6, 7);
        due.faultAtOnce("257", FileMaker.begun().segment(196, FileMaker.counts(16, 0, 0, 0, 0, 0, 0, 0, 0, 200, 57)), 6, 16);
        due.faultAtOnce("a symbol twice", FileMaker.begun()
            .segment(196, FileMaker.joined(FileMaker.counts(16, 0, 3), 5, 5, 5)), 6, 24);
        due.faultAtOnce("12 in a DC table", FileMaker.begun()
            .segment(196, FileMaker.joined(FileMaker.counts(3, 0, 3), 5, 6, 12)), 6, 25);
    }

    @Holds(under = TERMS, words = "the name with which the sum of H * V is above 10.")
    static void aSumAbove10IsToldByTheName(Due due) {
        FileMaker made = FileMaker.withTables().frame(192, 16, 0x22, 1, 2, 3);
        due.faultAtOnce("12", made.copy().scan(0, 63, 0, 1, 2, 3), 6, made.size() + 9);
        due.faultAtOnce("ahead of its tables", made.copy().segment(218, 3, 1, 0, 2, 0, 3, 0x44, 0, 63, 0), 6, made.size() + 9);
        due.faultAtOnce("behind wrong tables", made.copy().segment(218, 3, 1, 0, 2, 0x44, 3, 0, 0, 63, 0), 6, made.size() + 8);
    }

    @Holds(under = TERMS, words = "7: a component in a SCAN that the FRAME does not have, or out of order (its name).")
    static void aComponentThatIsNotThereOrOutOfOrder(Due due) {
        FileMaker made = framed(192, 4, 5);
        due.faultAtOnce("not there", made.copy().scan(0, 63, 0, 6), 7, made.size() + 5);
        due.faultAtOnce("out of order", made.copy().scan(0, 63, 0, 5, 4), 7, made.size() + 7);
        due.faultAtOnce("ahead of its tables", made.copy().segment(218, 1, 6, 0x44, 0, 63, 0), 7, made.size() + 5);
        FileMaker wide = FileMaker.withTables().frame(192, 16, 0x22, 1, 2, 3);
        due.faultAtOnce("out of order, with a sum above 10", wide.copy().scan(0, 63, 0, 1, 2, 1), 7, wide.size() + 9);
        due.faultAtOnce("not there, behind 8", wide.copy().scan(0, 63, 0, 1, 2, 9), 7, wide.size() + 9);
    }

    @Holds(under = TERMS, words = "CONTENTS that go beyond the LENGTH are fault 5 as soon as a byte of them would be (ahead of 1).")
    static void contentsBeyondTheLengthAreSeenAheadOfTheEnd(Due due) {
        for (int code : new int[] {192, 194, 196, 219, 221}) {
            due.fault("no CONTENTS of " + code, FileMaker.begun().put(255, code, 0, 2), 5, 4);
        }
        due.fault("a FRAME's first byte", FileMaker.begun().put(255, 192, 0, 3, 8), 5, 4);
        due.fault("its CONTENTS not there", FileMaker.begun().put(255, 192, 0, 3), 1, 6);
        due.fault("half an INTERVAL", FileMaker.begun().put(255, 221, 0, 3, 1), 5, 4);
        due.fault("half a table", FileMaker.begun().put(255, 219, 0, 3, 1), 5, 4);
        due.fault("no COUNTS", FileMaker.begun().put(255, 196, 0, 3, 1), 5, 4);
        due.fault("no symbols", FileMaker.begun().put(255, 196, 0, 19).put(FileMaker.counts(1, 1)), 5, 4);
        FileMaker made = framed(192, 1);
        due.fault("a SCAN's first byte", made.copy().put(255, 218, 0, 3, 1), 5, made.size() + 2);
        due.fault("a SCAN's last byte", made.copy().put(255, 218, 0, 7, 1, 1, 0, 0, 63), 5, made.size() + 2);
    }

    @Holds(under = TERMS, words = "CONTENTS that go beyond the LENGTH are fault 5 as soon as a byte of them would be (ahead of 1).")
    static void bytesBehindTheLengthAreNotLookedAt(Due due) {
        due.fault("a wrong byte behind it", FileMaker.begun().put(255, 192, 0, 3, 8).put(255, 255), 5, 4);
        due.fault("a wrong value behind it", FileMaker.begun().put(255, 219, 0, 3, 1, 0), 5, 4);
        FileMaker made = framed(192, 1);
        due.fault("a wrong name behind it", made.copy().put(255, 218, 0, 3, 1, 9), 5, made.size() + 2);
    }

    @Holds(under = TERMS, words = "or one in which the CONTENTS do not end as they should (its first byte")
    static void aLengthAboveTheContentsIsSeenWhenTheseAreWhole(Due due) {
        due.fault("INTERVAL, the INPUT's end", FileMaker.begun().put(255, 221, 0, 5, 0, 1), 5, 4);
        due.fault("INTERVAL, LENGTH 65535", FileMaker.begun().put(255, 221, 255, 255, 0, 1), 5, 4);
        due.fault("FRAME, the INPUT's end", FileMaker.begun().put(255, 192, 0, 12).put(8, 0, 9, 0, 9, 1, 1, 0x11, 0), 5, 4);
    }

    @Holds(under = TERMS, words = "For a SCAN, when its last three bytes have been read")
    static void whatWasSentIsLookedAtBehindTheLastThreeBytes(Due due) {
        FileMaker made = framed(192, 1, 2).scan(0, 63, 0, 1).put(1);
        int length = made.size() + 2;
        int contents = made.size() + 4;
        due.fault("6 at FIRST", made.copy().scan(1, 63, 0, 1), 6, contents + 3);
        due.fault("6 at LAST", made.copy().scan(0, 62, 0, 1), 6, contents + 4);
        due.fault("6 at the last byte", made.copy().scan(0, 63, 0x10, 1), 6, contents + 5);
        due.fault("1 within them", made.copy().scan(0, 63, 0, 1).cut(contents + 5), 1, contents + 5);
        due.fault("5 within them", made.copy().put(255, 218, 0, 7, 1, 1, 0, 0, 63, 0), 5, length);
        due.fault("7 with them", made.copy().scan(0, 63, 0, 1).cut(contents + 6), 7, contents + 1);
        due.fault("7 of a later name first", made.copy().scan(0, 63, 0, 1, 9), 7, contents + 3);
    }

    @Holds(under = TERMS, words = "For a SCAN, when its last three bytes have been read")
    static void tablesAreLookedAtBehindTheLastThreeBytes(Due due) {
        FileMaker made = FileMaker.begun().frame(192, 16, 0x11, 1, 2);
        int contents = made.size() + 4;
        due.fault("6 at LAST", made.copy().scan(0, 62, 0, 1), 6, contents + 4);
        due.fault("1 within them", made.copy().scan(0, 63, 0, 1).cut(contents + 5), 1, contents + 5);
        due.fault("8 with them", made.copy().scan(0, 63, 0, 1).cut(contents + 6), 8, contents + 1);
        due.fault("7 of a later name first", made.copy().scan(0, 63, 0, 1, 9), 7, contents + 3);
    }

    @Holds(under = TERMS, words = "of its components, one behind the other: 7 if it was in a SCAN before (sequential)")
    static void theFirstComponentThatWasInAScanIsTold(Due due) {
        FileMaker made = framed(192, 1, 2, 3, 4).scan(0, 63, 0, 2, 3);
        int contents = made.size() + 4;
        due.fault("the second and third", made.copy().scan(0, 63, 0, 1, 2, 3, 4), 7, contents + 3);
        due.fault("the third", made.copy().scan(0, 63, 0, 1, 3, 4), 7, contents + 3);
        due.fault("the last", made.copy().scan(0, 63, 0, 1, 3), 7, contents + 3);
        due.fault("the first", made.copy().scan(0, 63, 0, 2, 4), 7, contents + 1);
    }

    @Holds(under = TERMS, words = "or FIRST is above 0 and there was none with FIRST 0 (its name)")
    static void firstAbove0WithoutOneWithFirst0(Due due) {
        FileMaker made = framed(194, 1, 2).scan(0, 0, 0, 1);
        due.fault("the second", made.copy().scan(1, 63, 0, 2), 7, made.size() + 5);
        due.fault("with BEFORE", made.copy().scan(1, 63, 0x10, 2), 7, made.size() + 5);
        due.fault("with BEFORE 14", made.copy().scan(1, 63, 0xED, 2), 7, made.size() + 5);
    }

    @Holds(under = TERMS, words = "then 6 if BEFORE and BITS do not fit what was sent (the last byte).")
    static void bitsThatDoNotFitAreToldByTheLastByte(Due due) {
        FileMaker made = FileMaker.begun().frame(194, 16, 0x11, 1, 2);
        due.fault("ahead of 8", made.copy().scan(0, 0, 0x10, 1), 6, made.size() + 9);
        due.fault("of two", made.copy().scan(0, 0, 0x10, 1, 2), 6, made.size() + 11);
        due.fault("BEFORE 14", made.copy().scan(0, 0, 0xED, 1), 6, made.size() + 9);
        due.fault("ahead of 5", made.copy().put(255, 218, 0, 9, 1, 1, 0, 0, 0, 0x10, 0), 6, made.size() + 9);
    }

    private static FileMaker needy() {
        return FileMaker.begun().segment(192, 8, 0, 9, 0, 9, 2, 1, 0x11, 0, 2, 0x11, 3);
    }

    @Holds(under = TERMS, words = "Then, one behind the other: 8 if its QUANTISERS are not there (its name)")
    static void missingQuantisersAreToldByTheName(Due due) {
        FileMaker made = needy();
        due.fault("of the first", made.copy().scan(0, 63, 0, 1, 2), 8, made.size() + 5);
        due.fault("ahead of WORDS", made.copy().scan(0, 63, 0, 2), 8, made.size() + 5);
        made.quantisers(0, 1).words(0, 1).words(16, 1);
        due.fault("of the second", made.copy().scan(0, 63, 0, 1, 2), 8, made.size() + 7);
    }

    @Holds(under = TERMS, words = "else if one of its tables of WORDS that is needed is not (the byte behind the name).")
    static void missingWordsAreToldByTheByteBehindTheName(Due due) {
        FileMaker made = needy().quantisers(0, 1);
        due.fault("both", made.copy().scan(0, 63, 0, 1), 8, made.size() + 6);
        due.fault("of the first, ahead of the second's QUANTISERS", made.copy().scan(0, 63, 0, 1, 2), 8, made.size() + 6);
        FileMaker dc = made.copy().words(0, 1);
        due.fault("the AC one", dc.copy().scan(0, 63, 0, 1), 8, dc.size() + 6);
        FileMaker ac = made.copy().words(16, 1);
        due.fault("the DC one", ac.copy().scan(0, 63, 0, 1), 8, ac.size() + 6);
        FileMaker all = dc.copy().words(16, 1).quantisers(3, 1);
        due.fault("of the second", all.copy().segment(218, 2, 1, 0, 2, 1, 0, 63, 0), 8, all.size() + 8);
    }

    @Holds(under = TERMS, words = "Then 5.")
    static void theLengthOfAScanComesLast(Due due) {
        FileMaker made = needy().words(0, 1).words(16, 1).quantisers(0, 1).scan(0, 63, 0, 1);
        int contents = made.size() + 4;
        due.fault("7 ahead of 5", made.copy().put(255, 218, 0, 9, 1, 1, 0, 0, 63, 0, 0), 7, contents + 1);
        due.fault("7 ahead of 8", made.copy().scan(0, 63, 0, 1, 2), 7, contents + 1);
        due.fault("8 ahead of 5", made.copy().put(255, 218, 0, 9, 1, 2, 0, 0, 63, 0, 0), 8, contents + 1);
        made.quantisers(3, 1);
        due.fault("then 5", made.copy().put(255, 218, 0, 9, 1, 2, 0, 0, 63, 0, 0), 5, made.size() + 2);
        due.fault("ahead of what its DATA are", made.copy().put(255, 218, 0, 9, 1, 2, 0, 0, 63, 0, 255, 208), 5, made.size() + 2);
    }

    @Holds(under = TERMS, words = "(BEFORE that is neither 0 nor BITS + 1, and BITS above 13, are 6 as soon as that byte is read")
    static void bitsThatCanNeverBeAreSeenAtOnce(Due due) {
        FileMaker made = framed(194, 1);
        for (int both = 0; both < 256; both++) {
            int before = both / 16;
            int bits = both % 16;
            boolean canBe = bits <= 13 && (before == 0 || before == bits + 1);
            due.fault("BEFORE " + before + ", BITS " + bits, made.copy().scan(1, 63, both, 1), canBe ? 7 : 6,
                made.size() + (canBe ? 5 : 9));
        }
    }

    @Holds(under = TERMS, words = "so is FIRST above 0 with more than one component.)")
    static void firstAbove0OfMoreThanOneIsSeenAtOnce(Due due) {
        FileMaker made = framed(194, 1, 2);
        due.faultAtOnce("ahead of 7", made.copy().scan(1, 63, 0, 1, 2), 6, made.size() + 9);
        due.faultAtOnce("ahead of LAST", made.copy().scan(1, 64, 0, 1, 2), 6, made.size() + 9);
        due.faultAtOnce("ahead of BITS", made.copy().scan(63, 63, 15, 1, 2), 6, made.size() + 9);
        due.fault("of one", made.copy().scan(1, 63, 0, 1), 7, made.size() + 5);
    }
}
