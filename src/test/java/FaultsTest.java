/** Promise 4: each of the FAULTS 1 to 8 with its number and its place, and which one of two is seen first. */
public final class FaultsTest {
    private static final Due due = new Due();

    public static void main(String[] args) {
        inputEnds();
        everyBeginningOfAFile();
        noBeginning();
        noMarker();
        markersThatCanNotBe();
        framesAndScansOutOfPlace();
        wrongRestarts();
        linesOutOfPlace();
        endTooSoon();
        wrongLengths();
        lengthsOfContents();
        wrongQuantisers();
        wrongCounts();
        wrongSymbols();
        wrongFrames();
        wrongLines();
        wrongScanBytes();
        wrongScanComponents();
        componentsSentBefore();
        bitsThatDoNotFit();
        tablesThatAreNotThere();
        orderOfScanFaults();
        due.end();
    }

    private static void fault(String what, FileMaker made, int number, int place) {
        SegmentReader x = made.given();
        due.is(what + ": read()", x.read(), number);
        due.is(what + ": look(1)", x.look(1), number);
        due.is(what + ": look(2)", x.look(2), place);
        due.is(what + ": look(3)", x.look(3), 0);
        due.is(what + ": look(6)", x.look(6), -1);
        due.is(what + ": frame", x.frame(0), -1);
    }

    private static void right(String what, FileMaker made) {
        SegmentReader x = made.given();
        due.is(what + ": read()", x.read(), 0);
        due.is(what + ": look(2)", x.look(2), -1);
    }

    private static FileMaker framed(int code, int... names) {
        return FileMaker.withTables().frame(code, 16, 0x11, names);
    }

    private static FileMaker scanned() {
        return framed(192, 1).scan(0, 63, 0, 1).put(5);
    }

    private static void inputEnds() {
        fault("nothing", new FileMaker(), 1, 0);
        fault("255", new FileMaker().put(255), 1, 1);
        fault("216 alone", FileMaker.begun(), 1, 2);
        fault("255 behind", FileMaker.begun().put(255), 1, 3);
        fault("255s behind", FileMaker.begun().put(255, 255, 255), 1, 5);
        fault("no LENGTH", FileMaker.begun().put(255, 224), 1, 4);
        fault("half a LENGTH", FileMaker.begun().put(255, 224, 0), 1, 5);
        fault("CONTENTS that are not there", FileMaker.begun().put(255, 224, 0, 3), 1, 6);
        fault("CONTENTS half there", FileMaker.begun().put(255, 254, 255, 255, 1, 2), 1, 8);
        fault("behind CONTENTS", FileMaker.begun().put(255, 254, 0, 4, 1, 2), 1, 8);
        fault("INTERVAL", FileMaker.begun().put(255, 221, 0, 5, 0), 1, 7);
        FileMaker data = scanned();
        fault("DATA", data, 1, data.size());
        fault("255 in DATA", data.put(255), 1, data.size());
        fault("255, 0 in DATA", data.put(0), 1, data.size());
    }

    /** Cut off anywhere, a file that is right has fault 1. */
    private static void everyBeginningOfAFile() {
        byte[] whole = FileMaker.withTables().segment(221, 0, 1).put(255).frame(194, 0, 0x21, 7, 8)
            .scan(0, 0, 1, 7, 8).put(1, 255, 0, 255, 208, 3).segment(220, 0, 16)
            .scan(0, 0, 0x10, 7).scan(1, 63, 0, 8).put(4).segment(254, 1, 2, 3).end().made();
        right("whole", FileMaker.of(whole));
        for (int size = 0; size < whole.length; size++) {
            fault("cut at " + size, FileMaker.of(java.util.Arrays.copyOf(whole, size)), 1, size);
        }
    }

    private static void noBeginning() {
        fault("1", new FileMaker().put(1), 2, 0);
        fault("0, 216", new FileMaker().put(0, 216), 2, 0);
        fault("255, 217", new FileMaker().put(255, 217), 2, 0);
        fault("two 255s", new FileMaker().put(255, 255, 216), 2, 0);
        fault("255, 255", new FileMaker().put(255, 255), 2, 0);
        fault("216, 255", new FileMaker().put(216, 255), 2, 0);
    }

    private static void noMarker() {
        fault("behind 216", FileMaker.begun().put(0), 3, 2);
        fault("254 behind 216", FileMaker.begun().put(254, 255, 217), 3, 2);
        fault("behind CONTENTS", FileMaker.begun().segment(224, 1).put(9, 255), 3, 7);
        FileMaker made = scanned().segment(254, 255).put(255, 254, 0, 2, 217);
        fault("behind CONTENTS behind DATA", made, 3, made.size() - 1);
    }

    private static void markersThatCanNotBe() {
        for (int code = 0; code < 255; code++) {
            boolean known = code == 192 || code == 194 || code == 196 || code == 219 || code == 221
                || code >= 224 && code <= 239 || code == 254;
            fault("MARKER " + code, FileMaker.begun().put(255, code), known ? 1 : 4, known ? 4 : 3);
        }
        fault("its CODE", FileMaker.begun().put(255, 255, 255, 1), 4, 5);
        FileMaker made = scanned().put(255, 216);
        fault("216 again", made, 4, made.size() - 1);
        made = scanned().put(255, 255, 0);
        fault("0 behind two 255s", made, 4, made.size() - 1);
        made = scanned().put(255, 1);
        fault("1 behind DATA", made, 4, made.size() - 1);
        right("217 behind two 255s", scanned().put(255, 255, 217));
    }

    private static void framesAndScansOutOfPlace() {
        for (int first : new int[] {192, 194}) {
            for (int second : new int[] {192, 194}) {
                FileMaker made = framed(first, 1).put(255, second);
                fault("second FRAME", made, 4, made.size() - 1);
            }
        }
        FileMaker made = FileMaker.withTables().put(255, 218);
        fault("SCAN ahead of the FRAME", made, 4, made.size() - 1);
    }

    private static void wrongRestarts() {
        FileMaker made = scanned().put(255, 208, 1).end();
        fault("without INTERVAL", made, 4, made.size() - 4);
        made = FileMaker.withTables().segment(221, 0, 4).segment(221, 0, 0).frame(192, 16, 0x11, 1)
            .scan(0, 63, 0, 1).put(255, 208).end();
        fault("INTERVAL 0 again", made, 4, made.size() - 3);
        for (int code = 208; code <= 215; code++) {
            made = FileMaker.withTables().segment(221, 1, 0).frame(192, 16, 0x11, 1)
                .scan(0, 63, 0, 1).put(9).put(255, code).end();
            if (code == 208) {
                right("first RESTART", made);
            } else {
                fault("RESTART " + code, made, 4, made.size() - 3);
            }
        }
        made = FileMaker.withTables().segment(221, 0, 1).frame(192, 16, 0x11, 1).scan(0, 63, 0, 1);
        fault("twice the same", FileMaker.of(made.made()).put(255, 208, 255, 208), 4, made.size() + 3);
        fault("two 255s", FileMaker.of(made.made()).put(255, 255, 208), 4, made.size() + 2);
        made.put(255, 208, 255, 209, 255, 210, 255, 211, 255, 212, 255, 213, 255, 214, 255, 215);
        right("208 behind 215", FileMaker.of(made.made()).put(255, 208, 255, 209).end());
        fault("209 behind 215", FileMaker.of(made.made()).put(255, 209), 4, made.size() + 1);
        made = FileMaker.begun().segment(221, 0, 1).put(255, 208);
        fault("not in DATA", made, 4, made.size() - 1);
    }

    private static void linesOutOfPlace() {
        fault("LINES at once", FileMaker.begun().segment(220, 0, 5), 4, 3);
        FileMaker none = FileMaker.withTables().frame(192, 0, 0x11, 1, 2);
        fault("LINES behind the FRAME", FileMaker.of(none.made()).segment(220, 0, 5), 4, none.size() + 1);
        none.scan(0, 63, 0, 1).put(1);
        int code = none.size() + 1;
        fault("SCAN where LINES must be", FileMaker.of(none.made()).scan(0, 63, 0, 2), 4, code);
        fault("217 where LINES must be", FileMaker.of(none.made()).end(), 4, code);
        fault("remark where LINES must be", FileMaker.of(none.made()).segment(254), 4, code);
        fault("fill bytes ahead of that", FileMaker.of(none.made()).put(255).segment(254), 4, code + 1);
        none.segment(220, 0, 5);
        fault("LINES twice", FileMaker.of(none.made()).segment(220, 0, 5), 4, none.size() + 1);
        none.scan(0, 63, 0, 2);
        fault("LINES behind the second SCAN", FileMaker.of(none.made()).segment(220, 0, 5), 4, none.size() + 1);
        right("LINES behind the first SCAN", none.end());
        FileMaker told = scanned().segment(220, 0, 16);
        fault("LINES with a HEIGHT", told, 4, told.size() - 5);
        FileMaker late = FileMaker.withTables().frame(192, 0, 0x11, 1).scan(0, 63, 0, 1).segment(254)
            .segment(220, 0, 5);
        fault("LINES not just behind the DATA", late, 4, late.size() - 9);
    }

    private static void endTooSoon() {
        fault("217 at once", FileMaker.begun().end(), 4, 3);
        FileMaker made = FileMaker.withTables().end();
        fault("217 without a FRAME", made, 4, made.size() - 1);
        made = framed(192, 1).end();
        fault("217 without a SCAN", made, 4, made.size() - 1);
        made = framed(192, 1, 2, 3).scan(0, 63, 0, 1, 3).end();
        fault("217 ahead of the second component", made, 4, made.size() - 1);
        right("all components", framed(192, 1, 2, 3).scan(0, 63, 0, 1, 3).scan(0, 63, 0, 2).end());
        made = framed(194, 1, 2).scan(0, 0, 0, 2).scan(1, 63, 0, 2).end();
        fault("217 ahead of the first component", made, 4, made.size() - 1);
        right("all with FIRST 0", framed(194, 1, 2).scan(0, 0, 0, 2).scan(0, 0, 3, 1).end());
    }

    private static void wrongLengths() {
        for (int code : new int[] {192, 194, 196, 219, 221, 224, 239, 254}) {
            fault("LENGTH 0 of " + code, FileMaker.begun().put(255, code, 0, 0), 5, 4);
            fault("LENGTH 1 of " + code, FileMaker.begun().put(255).put(255, code, 0, 1), 5, 5);
        }
        for (int code : new int[] {192, 194, 196, 219, 221}) {
            fault("LENGTH 2 of " + code, FileMaker.begun().put(255, code, 0, 2), 5, 4);
        }
        FileMaker made = framed(192, 1).put(255, 218, 0, 2);
        fault("LENGTH 2 of SCAN", made, 5, made.size() - 2);
        made = FileMaker.withTables().frame(192, 0, 0x11, 1).scan(0, 63, 0, 1).put(255, 220, 0, 1);
        fault("LENGTH 1 of LINES", made, 5, made.size() - 2);
        right("LENGTH 2 of a remark", scanned().segment(254).end());
    }

    /** For CONTENTS that are right: any LENGTH below or above them is fault 5, with or without bytes behind. */
    private static void lengths(String what, FileMaker ahead, int code, int... contents) {
        int place = ahead.size() + 2;
        for (int length = 2; length <= contents.length + 4; length++) {
            if (length == contents.length + 2) {
                continue;
            }
            FileMaker made = FileMaker.of(ahead.made()).put(255, code).put(0, length);
            int there = Math.min(length - 2, contents.length);
            made.put(java.util.Arrays.copyOf(contents, there));
            fault(what + " of LENGTH " + length, FileMaker.of(made.made()), 5, place);
            fault(what + " of LENGTH " + length + " and more", made.put(255, 217), 5, place);
        }
    }

    private static void lengthsOfContents() {
        lengths("INTERVAL", FileMaker.begun(), 221, 1, 2);
        lengths("FRAME", FileMaker.begun(), 192, 8, 0, 16, 0, 24, 2, 1, 0x11, 0, 2, 0x22, 3);
        lengths("SCAN", framed(192, 1, 2), 218, 2, 1, 0, 2, 0, 0, 63, 0);
        lengths("LINES", FileMaker.withTables().frame(192, 0, 0x11, 1).scan(0, 63, 0, 1), 220, 0, 16);
        int[] table = FileMaker.quantiserTable(2, 7);
        fault("QUANTISERS cut", FileMaker.begun().put(255, 219, 0, 66).put(table), 5, 4);
        fault("half a second table", FileMaker.begun().put(255, 219, 0, 68).put(table).put(1), 5, 4);
        fault("its byte comes first", FileMaker.begun().put(255, 219, 0, 68).put(table).put(4), 6, 71);
        fault("its end comes first", FileMaker.begun().put(255, 219, 0, 68).put(table), 1, 71);
        int[] words = FileMaker.joined(FileMaker.counts(1, 0, 2), 0, 1);
        fault("WORDS cut", FileMaker.begun().put(255, 196, 0, 20).put(words), 5, 4);
        fault("COUNTS cut", FileMaker.begun().put(255, 196, 0, 18).put(words), 5, 4);
        fault("half a second table", FileMaker.begun().put(255, 196, 0, 22).put(words).put(16), 5, 4);
        fault("its byte comes first", FileMaker.begun().put(255, 196, 0, 22).put(words).put(15), 6, 25);
        fault("CONTENTS come ahead of LENGTH", FileMaker.begun().put(255, 192, 0, 50, 7), 6, 6);
        fault("LENGTH comes ahead of the end", FileMaker.begun().put(255, 221, 0, 50, 7, 7), 5, 4);
    }

    private static void wrongQuantisers() {
        for (int table : new int[] {4, 16, 128, 255}) {
            fault("table " + table, FileMaker.begun().quantisers(table, 1), 6, 6);
        }
        for (int k : new int[] {0, 1, 62, 63}) {
            int[] contents = FileMaker.quantiserTable(0, 1);
            contents[1 + k] = 0;
            fault("value " + k, FileMaker.begun().segment(219, contents), 6, 7 + k);
        }
        int[] both = FileMaker.joined(FileMaker.quantiserTable(0, 1), FileMaker.quantiserTable(4, 1));
        fault("second table", FileMaker.begun().segment(219, both), 6, 71);
    }

    private static void counts(String what, int wrongLength, int... counts) {
        FileMaker made = FileMaker.begun().segment(196, FileMaker.joined(FileMaker.counts(16, counts),
            new int[300]));
        fault(what, made, 6, 6 + wrongLength);
    }

    private static void wrongCounts() {
        for (int table : new int[] {4, 15, 20, 32, 255}) {
            fault("table " + table, FileMaker.begun().words(table, 1), 6, 6);
        }
        counts("none", 16);
        counts("all 1s of 1 bit", 1, 2);
        counts("all 1s of 2 bits", 2, 0, 4);
        counts("more than 2 bits", 2, 0, 5);
        counts("0, 10, 11", 2, 1, 2);
        counts("one too many of 3 bits", 3, 0, 2, 4);
        counts("257 words", 10, 0, 0, 0, 0, 0, 0, 0, 0, 200, 57);
        counts("257 words at the end", 16, 0, 0, 0, 0, 0, 0, 0, 0, 0, 255, 0, 0, 0, 0, 1, 1);
        counts("all 1s of 16 bits", 16, 1, 1, 1, 1, 1, 1, 1, 1, 1, 1, 1, 1, 1, 1, 1, 2);
        counts("all 1s of 8 bits", 8, 0, 0, 0, 0, 0, 0, 1, 254);
        FileMaker made = FileMaker.begun().segment(196, FileMaker.joined(FileMaker.counts(16,
            0, 0, 0, 0, 0, 0, 1, 253), new int[254]));
        fault("253 of 8 bits are right", made, 6, 24);
    }

    private static void wrongSymbols() {
        int[] three = FileMaker.counts(2, 0, 3);
        fault("12", FileMaker.begun().segment(196, FileMaker.joined(three, 12, 0, 1)), 6, 23);
        fault("twice", FileMaker.begun().segment(196, FileMaker.joined(three, 11, 0, 11)), 6, 25);
        fault("at once", FileMaker.begun().segment(196, FileMaker.joined(three, 0, 0, 1)), 6, 24);
        int[] ac = FileMaker.counts(18, 0, 3);
        fault("twice in AC", FileMaker.begun().segment(196, FileMaker.joined(ac, 255, 64, 255)), 6, 25);
        fault("right in AC", FileMaker.begun().segment(196, FileMaker.joined(ac, 0, 64, 128)), 1, 26);
        fault("in two tables", FileMaker.begun().words(16, 2).words(16, 2), 1, 48);
        int[] both = FileMaker.joined(FileMaker.joined(ac, 1, 2, 3), FileMaker.joined(three, 1, 2, 3));
        fault("in two of one SEGMENT", FileMaker.begun().segment(196, both), 1, 46);
    }

    private static void wrongFrameByte(String what, int at, int value) {
        int[] contents = {8, 0, 16, 0, 24, 2, 1, 0x11, 0, 2, 0x22, 3};
        contents[at] = value;
        boolean upper = at == 1 || at == 3;
        fault(what, FileMaker.begun().segment(194, contents), 6, 6 + at + (upper ? 1 : 0));
    }

    private static void wrongFrames() {
        wrongFrameByte("7", 0, 7);
        wrongFrameByte("9", 0, 9);
        wrongFrameByte("12", 0, 12);
        wrongFrameByte("HEIGHT 65", 2, 65);
        wrongFrameByte("HEIGHT 272", 1, 1);
        wrongFrameByte("WIDTH 0", 4, 0);
        wrongFrameByte("WIDTH 65", 4, 65);
        wrongFrameByte("WIDTH 280", 3, 1);
        wrongFrameByte("no components", 5, 0);
        wrongFrameByte("5 components", 5, 5);
        wrongFrameByte("the same name", 9, 1);
        for (int factors : new int[] {0, 1, 2, 0x10, 0x20, 0x13, 0x31, 0x01, 0x23, 0x32, 0x41, 0x14, 255}) {
            wrongFrameByte("factors " + factors, 7, factors);
            wrongFrameByte("factors " + factors, 10, factors);
        }
        wrongFrameByte("table 4", 8, 4);
        wrongFrameByte("table 255", 11, 255);
        fault("HEIGHT 256 cut", FileMaker.begun().put(255, 192, 0, 11, 8, 1), 1, 8);
        fault("HEIGHT 256 beyond", FileMaker.begun().put(255, 192, 0, 4, 8, 1, 0), 5, 4);
    }

    private static void wrongLines() {
        FileMaker made = FileMaker.withTables().frame(194, 0, 0x11, 1).scan(0, 0, 0, 1);
        int last = made.size() + 5;
        fault("0", FileMaker.of(made.made()).segment(220, 0, 0), 6, last);
        fault("65", FileMaker.of(made.made()).segment(220, 0, 65), 6, last);
        fault("257", FileMaker.of(made.made()).segment(220, 1, 1), 6, last);
    }

    private static void wrongScanByte(String what, int code, int at, int... contents) {
        FileMaker made = framed(code, 1, 2, 3).segment(194 == code ? 254 : 224);
        int place = made.size() + 4 + at;
        fault(what, made.segment(218, contents), 6, place);
    }

    private static void wrongScanBytes() {
        for (int code : new int[] {192, 194}) {
            wrongScanByte("no components", code, 0, 0, 0, 63, 0);
            wrongScanByte("5 components", code, 0, 5, 1, 0, 2, 0, 3, 0, 4, 0, 5, 0, 0, 63, 0);
            for (int tables : new int[] {4, 0x40, 0x44, 0x34, 0x43, 15, 0xF0, 255}) {
                wrongScanByte("tables " + tables, code, 2, 1, 1, tables, 0, 63, 0);
                wrongScanByte("tables " + tables, code, 4, 2, 1, 0, 2, tables, 0, 63, 0);
            }
        }
        wrongScanByte("FIRST 1", 192, 3, 1, 1, 0, 1, 63, 0);
        wrongScanByte("LAST 62", 192, 4, 1, 1, 0, 0, 62, 0);
        wrongScanByte("LAST 64", 192, 4, 1, 1, 0, 0, 64, 0);
        wrongScanByte("BITS 1", 192, 5, 1, 1, 0, 0, 63, 1);
        wrongScanByte("BEFORE 1", 192, 5, 1, 1, 0, 0, 63, 0x10);
        wrongScanByte("LAST 1", 194, 4, 1, 1, 0, 0, 1, 0);
        wrongScanByte("LAST 63", 194, 4, 1, 1, 0, 0, 63, 0);
        wrongScanByte("FIRST 64", 194, 3, 1, 1, 0, 64, 64, 0);
        wrongScanByte("LAST below FIRST", 194, 4, 1, 1, 0, 5, 4, 0);
        wrongScanByte("LAST above 63", 194, 4, 1, 1, 0, 5, 64, 0);
        wrongScanByte("FIRST 1 of two", 194, 5, 2, 1, 0, 2, 0, 1, 63, 0);
        for (int both : new int[] {0x0E, 0x0F, 0xFE, 0xEE, 0x20, 0x11, 0x1F, 0xF0, 0x31, 0xED - 1}) {
            wrongScanByte("BEFORE, BITS " + both, 194, 5, 1, 1, 0, 0, 0, both);
            wrongScanByte("ahead of 7: " + both, 194, 5, 1, 1, 0, 1, 1, both);
        }
    }

    private static void wrongScanComponents() {
        for (int code : new int[] {192, 194}) {
            int last = code == 192 ? 63 : 0;
            FileMaker made = framed(code, 5, 3, 9);
            int contents = made.size() + 4;
            byte[] ahead = made.made();
            fault("unknown", FileMaker.of(ahead).scan(0, last, 0, 4), 7, contents + 1);
            fault("unknown second", FileMaker.of(ahead).scan(0, last, 0, 5, 0), 7, contents + 3);
            fault("twice", FileMaker.of(ahead).scan(0, last, 0, 5, 5), 7, contents + 3);
            fault("out of order", FileMaker.of(ahead).scan(0, last, 0, 3, 5), 7, contents + 3);
            fault("out of order", FileMaker.of(ahead).scan(0, last, 0, 5, 9, 3), 7, contents + 5);
            fault("one too many", FileMaker.of(ahead).scan(0, last, 0, 5, 3, 9, 9), 7, contents + 7);
            fault("7 as soon as seen", FileMaker.of(ahead).put(255, 218, 0, 8, 1, 4), 7, contents + 1);
            right("in order", FileMaker.of(ahead).scan(0, last, 0, 5, 9).scan(0, last, 0, 3).end());
            right("by the FRAME's order", FileMaker.of(ahead).scan(0, last, 0, 5, 3, 9).end());
            FileMaker wide = FileMaker.withTables().frame(code, 16, 0x22, 1, 2, 3, 4);
            contents = wide.size() + 4;
            fault("12", FileMaker.of(wide.made()).scan(0, last, 0, 1, 2, 4), 6, contents + 5);
            fault("12 of four", FileMaker.of(wide.made()).scan(0, last, 0, 1, 2, 3, 4), 6, contents + 5);
            right("8", FileMaker.of(wide.made()).scan(0, last, 0, 1, 4).scan(0, last, 0, 2, 3).end());
            FileMaker ten = FileMaker.withTables()
                .segment(code, 8, 0, 9, 0, 9, 4, 1, 0x22, 0, 2, 0x12, 0, 3, 0x22, 0, 4, 0x11, 0);
            contents = ten.size() + 4;
            right("10", FileMaker.of(ten.made()).scan(0, last, 0, 1, 2, 3).scan(0, last, 0, 4).end());
            fault("11", FileMaker.of(ten.made()).scan(0, last, 0, 1, 2, 3, 4), 6, contents + 7);
        }
    }

    private static void componentsSentBefore() {
        FileMaker made = framed(192, 1, 2, 3).scan(0, 63, 0, 2);
        int contents = made.size() + 4;
        fault("again", FileMaker.of(made.made()).scan(0, 63, 0, 2), 7, contents + 1);
        fault("again as second", FileMaker.of(made.made()).scan(0, 63, 0, 1, 2, 3), 7, contents + 3);
        made = framed(194, 1, 2).scan(0, 0, 0, 2);
        contents = made.size() + 4;
        fault("none with FIRST 0", FileMaker.of(made.made()).scan(1, 1, 0, 1), 7, contents + 1);
        fault("7 ahead of 6", FileMaker.of(made.made()).scan(1, 1, 0x10, 1), 7, contents + 1);
        right("one with FIRST 0", made.scan(1, 1, 0, 2).scan(0, 0, 0, 1).end());
    }

    private static void bitsThatDoNotFit() {
        FileMaker made = framed(194, 1, 2);
        int last = made.size() + 9;
        fault("BEFORE without a SCAN", FileMaker.of(made.made()).scan(0, 0, 0x10, 1), 6, last);
        fault("BEFORE 14", FileMaker.of(made.made()).scan(0, 0, 0xED, 1), 6, last);
        made.scan(0, 0, 2, 1);
        last = made.size() + 9;
        fault("0 again", FileMaker.of(made.made()).scan(0, 0, 0, 1), 6, last);
        fault("2 again", FileMaker.of(made.made()).scan(0, 0, 2, 1), 6, last);
        fault("not the latest", FileMaker.of(made.made()).scan(0, 0, 0x32, 1), 6, last);
        fault("below the latest", FileMaker.of(made.made()).scan(0, 0, 0x10, 1), 6, last);
        fault("fits one of two", FileMaker.of(made.made()).scan(0, 0, 0x21, 1, 2), 6, last + 2);
        fault("fits the other", FileMaker.of(made.made()).scan(0, 0, 0, 1, 2), 6, last + 2);
        made.scan(0, 0, 0x21, 1).scan(0, 0, 0x10, 1);
        last = made.size() + 9;
        fault("behind 0", FileMaker.of(made.made()).scan(0, 0, 0, 1), 6, last);
        made.scan(4, 8, 1, 1).scan(9, 9, 2, 1);
        last = made.size() + 9;
        fault("8 was there", FileMaker.of(made.made()).scan(8, 8, 0, 1), 6, last);
        fault("4 was there", FileMaker.of(made.made()).scan(1, 4, 0, 1), 6, last);
        fault("3 was not", FileMaker.of(made.made()).scan(3, 8, 0x10, 1), 6, last);
        fault("9 was another", FileMaker.of(made.made()).scan(4, 9, 0x10, 1), 6, last);
        fault("10 was not", FileMaker.of(made.made()).scan(9, 10, 0x21, 1), 6, last);
        made.scan(9, 9, 0x21, 1).scan(4, 9, 0x10, 1).scan(1, 3, 0, 1).scan(10, 63, 13, 1);
        right("all fit", made.scan(0, 0, 1, 2).end());
    }

    private static FileMaker needy(int code) {
        return FileMaker.begun().segment(code, 8, 0, 9, 0, 9, 2, 1, 0x11, 0, 2, 0x11, 3);
    }

    private static void tablesThatAreNotThere() {
        FileMaker made = needy(192);
        fault("no QUANTISERS", FileMaker.of(made.made()).scan(0, 63, 0, 1), 8, made.size() + 5);
        made.quantisers(0, 1);
        fault("no WORDS", FileMaker.of(made.made()).scan(0, 63, 0, 1), 8, made.size() + 6);
        made.words(0, 1);
        fault("no AC", FileMaker.of(made.made()).scan(0, 63, 0, 1), 8, made.size() + 6);
        made.words(17, 1);
        int contents = made.size() + 4;
        fault("no AC 0", FileMaker.of(made.made()).scan(0, 63, 0, 1), 8, contents + 2);
        fault("no DC 1", FileMaker.of(made.made()).segment(218, 1, 1, 0x11, 0, 63, 0), 8, contents + 2);
        fault("no QUANTISERS 3", FileMaker.of(made.made()).segment(218, 2, 1, 1, 2, 1, 0, 63, 0), 8, contents + 3);
        made.quantisers(3, 1);
        contents = made.size() + 4;
        fault("of the second", FileMaker.of(made.made()).segment(218, 2, 1, 1, 2, 2, 0, 63, 0), 8, contents + 4);
        right("all there", made.segment(218, 2, 1, 1, 2, 1, 0, 63, 0).end());
        FileMaker two = needy(194).quantisers(3, 1);
        fault("progressive DC", FileMaker.of(two.made()).scan(0, 0, 1, 2), 8, two.size() + 6);
        two.words(0, 1).scan(0, 0, 1, 2);
        fault("progressive AC", FileMaker.of(two.made()).scan(1, 2, 1, 2), 8, two.size() + 6);
        two.segment(218, 1, 2, 0x33, 0, 0, 0x10).words(18, 1).segment(218, 1, 2, 0x32, 1, 2, 1);
        fault("AC of a later SCAN", FileMaker.of(two.made()).segment(218, 1, 2, 3, 1, 2, 0x10), 8, two.size() + 6);
        fault("QUANTISERS of a later SCAN", FileMaker.of(two.made()).scan(0, 0, 0, 1), 8, two.size() + 5);
        two.quantisers(0, 1);
        right("those not needed", two.segment(218, 1, 1, 3, 0, 0, 0).end());
    }

    private static void orderOfScanFaults() {
        FileMaker made = needy(192).words(0, 1).words(16, 1).quantisers(0, 1).scan(0, 63, 0, 1);
        int contents = made.size() + 4;
        fault("7 ahead of 8", FileMaker.of(made.made()).put(255, 218, 0, 11)
            .put(2, 1, 0x33, 2, 0, 0, 63, 0, 0), 7, contents + 1);
        fault("8 ahead of 5", FileMaker.of(made.made()).put(255, 218, 0, 9)
            .put(1, 2, 0, 0, 63, 0, 0), 8, contents + 1);
        made.quantisers(3, 1);
        fault("then 5", FileMaker.of(made.made()).put(255, 218, 0, 9)
            .put(1, 2, 0, 0, 63, 0, 0), 5, made.size() + 2);
        FileMaker two = needy(194);
        contents = two.size() + 4;
        fault("6 ahead of 8", FileMaker.of(two.made()).scan(0, 0, 0x10, 1), 6, contents + 5);
        fault("name ahead of sum", FileMaker.withTables().frame(192, 16, 0x22, 1, 2, 3)
            .scan(0, 63, 0, 1, 2, 1), 7, FileMaker.withTables().frame(192, 16, 0x22, 1, 2, 3).size() + 9);
    }
}
