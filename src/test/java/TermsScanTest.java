/** Terms: the SCAN's CONTENTS and the tables that it needs. */
public final class TermsScanTest {
    private static final String TERMS = "Terms";

    public static void main(String[] args) {
        Sentences.run(TermsScanTest.class);
    }

    private static FileMaker framed(int code, int... names) {
        return FileMaker.withTables().frame(code, 16, 0x11, names);
    }

    /** A FRAME of components 1, 2, 3, 4 with these 16 * H + V. */
    private static FileMaker sized(int code, int... factors) {
        int[] contents = {8, 0, 9, 0, 9, factors.length};
        for (int c = 0; c < factors.length; c++) {
            contents = FileMaker.joined(contents, c + 1, factors[c], 0);
        }
        return FileMaker.withTables().segment(code, contents);
    }

    private static int last(int code) {
        return code == 192 ? 63 : 0;
    }

    /** The SCAN of these CONTENTS behind that FRAME is refused at one of its bytes, as soon as that is read. */
    private static void wrong(Due due, String what, FileMaker ahead, int number, int at, int... contents) {
        int place = ahead.size() + 4 + at;
        due.faultAtOnce(what, ahead.copy().segment(218, contents).end(), number, place);
    }

    @Holds(under = TERMS, words = "218 SCAN, behind the FRAME")
    static void aScanStandsBehindTheFrame(Due due) {
        FileMaker tables = FileMaker.withTables();
        due.faultAtOnce("ahead", tables.copy().scan(0, 63, 0, 1), 4, tables.size() + 1);
        due.faultAtOnce("at once", FileMaker.begun().scan(0, 63, 0, 1), 4, 3);
        due.right("just behind", framed(192, 1).scan(0, 63, 0, 1).end());
        due.right("with tables between", FileMaker.begun().frame(192, 16, 0x11, 1).quantisers(0, 1).words(0, 1)
            .words(16, 1).scan(0, 63, 0, 1).end());
    }

    @Holds(under = TERMS, words = "a byte, 1 .. 4 components; for each: the name")
    static void oneToFourComponents(Due due) {
        for (int code : new int[] {192, 194}) {
            FileMaker made = framed(code, 1, 2, 3, 4);
            due.right("one each", made.copy().scan(0, last(code), 0, 1).scan(0, last(code), 0, 2)
                .scan(0, last(code), 0, 3).scan(0, last(code), 0, 4).end());
            due.right("two each", made.copy().scan(0, last(code), 0, 1, 2).scan(0, last(code), 0, 3, 4).end());
            due.right("three and one", made.copy().scan(0, last(code), 0, 1, 2, 3).scan(0, last(code), 0, 4).end());
            due.right("four", made.copy().scan(0, last(code), 0, 1, 2, 3, 4).end());
            wrong(due, "none", made, 6, 0, 0, 0, last(code), 0);
            wrong(due, "five", made, 6, 0, 5, 1, 0, 2, 0, 3, 0, 4, 0, 5, 0, 0, last(code), 0);
            wrong(due, "255", made, 6, 0, 255, 1, 0, 0, last(code), 0);
        }
    }

    @Holds(under = TERMS, words = "the name of one of the FRAME's, in the FRAME's order")
    static void theNamesAreTheFrames(Due due) {
        for (int code : new int[] {192, 194}) {
            FileMaker made = framed(code, 5, 0, 255);
            due.right("the FRAME's", made.copy().scan(0, last(code), 0, 5, 0, 255).end());
            for (int name : new int[] {1, 4, 6, 254}) {
                wrong(due, "name " + name, made, 7, 1, 1, name, 0, 0, last(code), 0);
                wrong(due, "second " + name, made, 7, 3, 2, 5, 0, name, 0, 0, last(code), 0);
            }
            FileMaker one = framed(code, 9);
            wrong(due, "0 where there is no second", one, 7, 1, 1, 0, 0, 0, last(code), 0);
            wrong(due, "more than the FRAME has", one, 7, 3, 2, 9, 0, 9, 0, 0, last(code), 0);
        }
    }

    @Holds(under = TERMS, words = "the name of one of the FRAME's, in the FRAME's order")
    static void theNamesAreInTheFramesOrder(Due due) {
        for (int code : new int[] {192, 194}) {
            int last = last(code);
            FileMaker made = framed(code, 5, 3, 9, 1);
            due.right("first and last", made.copy().scan(0, last, 0, 5, 1).scan(0, last, 0, 3, 9).end());
            due.right("SCANS in any order", made.copy().scan(0, last, 0, 1).scan(0, last, 0, 5, 9)
                .scan(0, last, 0, 3).end());
            wrong(due, "3, 5", made, 7, 3, 2, 3, 0, 5, 0, 0, last, 0);
            wrong(due, "9, 3", made, 7, 3, 2, 9, 0, 3, 0, 0, last, 0);
            wrong(due, "1, 9", made, 7, 3, 2, 1, 0, 9, 0, 0, last, 0);
            wrong(due, "5, 9, 3", made, 7, 5, 3, 5, 0, 9, 0, 3, 0, 0, last, 0);
            wrong(due, "5, 3, 1, 9", made, 7, 7, 4, 5, 0, 3, 0, 1, 0, 9, 0, 0, last, 0);
            wrong(due, "5, 5", made, 7, 3, 2, 5, 0, 5, 0, 0, last, 0);
            wrong(due, "5, 3, 3", made, 7, 5, 3, 5, 0, 3, 0, 3, 0, 0, last, 0);
        }
    }

    @Holds(under = TERMS, words = "a byte 16 * its DC table + its AC table (0 .. 3 each)")
    static void tables0To3(Due due) {
        FileMaker made = FileMaker.withTables().words(1, 1).words(2, 1).words(3, 1).words(17, 1).words(18, 1)
            .words(19, 1).frame(192, 16, 0x11, 1);
        for (int tables = 0; tables < 256; tables++) {
            if (tables / 16 <= 3 && tables % 16 <= 3) {
                SegmentReader x = due.right("tables " + tables, made.copy().segment(218, 1, 1, tables, 0, 63, 0).end());
                due.is("DC", x.scan(0, 17), tables / 16);
                due.is("AC", x.scan(0, 18), tables % 16);
            } else {
                wrong(due, "tables " + tables, made, 6, 2, 1, 1, tables, 0, 63, 0);
            }
        }
    }

    @Holds(under = TERMS, words = "a byte 16 * its DC table + its AC table (0 .. 3 each)")
    static void tablesThatAreNotNeededAre0To3Too(Due due) {
        FileMaker made = framed(194, 1, 2);
        due.right("0 .. 3", made.copy().segment(218, 2, 1, 3, 2, 3, 0, 0, 0).end());
        wrong(due, "AC 4", made, 6, 2, 1, 1, 4, 0, 0, 0);
        wrong(due, "AC 4 of the second", made, 6, 4, 2, 1, 0, 2, 4, 0, 0, 0);
        FileMaker later = made.copy().scan(0, 0, 0, 1, 2);
        due.right("DC 3", later.copy().segment(218, 1, 1, 0x30, 1, 1, 0).end());
        wrong(due, "DC 4", later, 6, 2, 1, 1, 0x40, 1, 1, 0);
    }

    @Holds(under = TERMS, words = "three bytes FIRST, LAST, 16 * BEFORE + BITS.")
    static void theThreeBytesStandBehindTheComponents(Due due) {
        SegmentReader x = due.right("read", framed(194, 1, 2).scan(0, 0, 3, 1, 2).scan(0, 0, 0x32, 1, 2)
            .scan(4, 5, 7, 2).end());
        due.part("scan(0, w)", w -> x.scan(0, w), 2, 0, 0, 0, 3);
        due.part("scan(1, w)", w -> x.scan(1, w), 2, 0, 0, 3, 2);
        due.part("scan(2, w)", w -> x.scan(2, w), 1, 4, 5, 0, 7);
    }

    @Holds(under = TERMS, words = "With more than one component the sum of their H * V is at most 10.")
    static void aSumOf10CanBe(Due due) {
        for (int code : new int[] {192, 194}) {
            int last = last(code);
            due.right("4 + 4 + 2", sized(code, 0x22, 0x22, 0x12).scan(0, last, 0, 1, 2, 3).end());
            due.right("4 + 4 + 1 + 1", sized(code, 0x22, 0x11, 0x22, 0x11).scan(0, last, 0, 1, 2, 3, 4).end());
            due.right("4 + 2 + 2 + 2", sized(code, 0x21, 0x12, 0x22, 0x21).scan(0, last, 0, 1, 2, 3, 4).end());
            due.right("4 + 4", sized(code, 0x22, 0x22).scan(0, last, 0, 1, 2).end());
            due.right("4 alone", sized(code, 0x22, 0x22, 0x22).scan(0, last, 0, 1).scan(0, last, 0, 2)
                .scan(0, last, 0, 3).end());
        }
    }

    @Holds(under = TERMS, words = "With more than one component the sum of their H * V is at most 10.")
    static void aSumOf11CanNotBe(Due due) {
        for (int code : new int[] {192, 194}) {
            int last = last(code);
            wrong(due, "4 + 4 + 2 + 1", sized(code, 0x22, 0x22, 0x12, 0x11), 6, 7,
                4, 1, 0, 2, 0, 3, 0, 4, 0, 0, last, 0);
            wrong(due, "1 + 4 + 2 + 4", sized(code, 0x11, 0x22, 0x21, 0x22), 6, 7,
                4, 1, 0, 2, 0, 3, 0, 4, 0, 0, last, 0);
            wrong(due, "4 + 4 + 4", sized(code, 0x22, 0x22, 0x22, 0x22), 6, 5,
                4, 1, 0, 2, 0, 3, 0, 4, 0, 0, last, 0);
            wrong(due, "4 + 4 + 4 of three", sized(code, 0x22, 0x22, 0x22, 0x22), 6, 5,
                3, 1, 0, 2, 0, 4, 0, 0, last, 0);
        }
    }

    @Holds(under = TERMS, words = "SCANS of a sequential FRAME: 0, 63, 0")
    static void aSequentialScanHas0And63And0(Due due) {
        FileMaker made = framed(192, 1, 2);
        due.right("0, 63, 0", made.copy().scan(0, 63, 0, 1, 2).end());
        for (int value = 0; value < 256; value++) {
            if (value != 0) {
                wrong(due, "FIRST " + value, made, 6, 3, 1, 1, 0, value, 63, 0);
                wrong(due, "BEFORE, BITS " + value, made, 6, 5, 1, 1, 0, 0, 63, value);
            }
            if (value != 63) {
                wrong(due, "LAST " + value, made, 6, 4, 1, 1, 0, 0, value, 0);
            }
        }
        wrong(due, "FIRST 1 of two", made, 6, 5, 2, 1, 0, 2, 0, 1, 63, 0);
    }

    @Holds(under = TERMS, words = "and none has a component that was in one before.")
    static void noComponentIsInTwoSequentialScans(Due due) {
        FileMaker made = framed(192, 1, 2, 3).scan(0, 63, 0, 2).put(1);
        int contents = made.size() + 4;
        due.fault("again", made.copy().scan(0, 63, 0, 2), 7, contents + 1);
        due.fault("as second", made.copy().scan(0, 63, 0, 1, 2), 7, contents + 3);
        due.fault("as first", made.copy().scan(0, 63, 0, 2, 3), 7, contents + 1);
        FileMaker two = made.copy().scan(0, 63, 0, 1);
        due.fault("not just behind", two.copy().scan(0, 63, 0, 2), 7, two.size() + 5);
        due.fault("the first of two", two.copy().scan(0, 63, 0, 1, 2, 3), 7, two.size() + 5);
        due.right("each once", two.scan(0, 63, 0, 3).end());
    }

    @Holds(under = TERMS, words = "Of a progressive one: FIRST is 0 and LAST 0")
    static void lastIs0WithFirst0(Due due) {
        FileMaker made = framed(194, 1, 2);
        due.right("0, 0", made.copy().scan(0, 0, 0, 1, 2).end());
        for (int last = 1; last < 256; last++) {
            wrong(due, "LAST " + last, made, 6, 4, 1, 1, 0, 0, last, 0);
        }
    }

    @Holds(under = TERMS, words = "or FIRST is 1 .. 63, LAST FIRST .. 63")
    static void firstIs1To63(Due due) {
        FileMaker made = framed(194, 1).scan(0, 0, 0, 1);
        for (int first = 1; first < 256; first++) {
            if (first <= 63) {
                due.right("FIRST " + first, made.copy().scan(first, 63, 0, 1).end());
            } else {
                wrong(due, "FIRST " + first, made, 6, 3, 1, 1, 0, first, 63, 0);
                wrong(due, "FIRST and LAST " + first, made, 6, 3, 1, 1, 0, first, first, 0);
            }
        }
    }

    @Holds(under = TERMS, words = "or FIRST is 1 .. 63, LAST FIRST .. 63")
    static void lastIsFirstTo63(Due due) {
        FileMaker made = framed(194, 1).scan(0, 0, 0, 1);
        for (int first : new int[] {1, 2, 31, 62, 63}) {
            for (int last : new int[] {0, 1, first - 1, first, first + 1, 62, 63, 64, 65, 127, 128, 255}) {
                if (last >= first && last <= 63) {
                    due.right(first + " .. " + last, made.copy().scan(first, last, 0, 1).end());
                } else {
                    wrong(due, first + " .. " + last, made, 6, 4, 1, 1, 0, first, last, 0);
                }
            }
        }
    }

    @Holds(under = TERMS, words = "and there is just one component")
    static void firstAbove0HasJustOneComponent(Due due) {
        FileMaker made = framed(194, 1, 2, 3, 4).scan(0, 0, 0, 1, 2, 3, 4);
        due.right("one", made.copy().scan(1, 63, 0, 1).scan(1, 63, 0, 4).end());
        wrong(due, "two", made, 6, 5, 2, 1, 0, 2, 0, 1, 63, 0);
        wrong(due, "three", made, 6, 7, 3, 1, 0, 2, 0, 4, 0, 63, 63, 0);
        wrong(due, "four", made, 6, 9, 4, 1, 0, 2, 0, 3, 0, 4, 0, 5, 6, 0);
    }

    @Holds(under = TERMS, words = "of which there was a SCAN with FIRST 0 before.")
    static void firstAbove0NeedsAScanWithFirst0(Due due) {
        FileMaker made = framed(194, 1, 2);
        due.fault("none at all", made.copy().scan(1, 1, 0, 1), 7, made.size() + 5);
        FileMaker second = made.copy().scan(0, 0, 0, 2);
        due.fault("of another", second.copy().scan(1, 1, 0, 1), 7, second.size() + 5);
        due.right("of its own", second.copy().scan(1, 1, 0, 2).scan(0, 0, 0, 1).scan(1, 1, 0, 1).end());
        due.right("with others", made.copy().scan(0, 0, 0, 1, 2).scan(1, 1, 0, 2).scan(1, 1, 0, 1).end());
    }

    @Holds(under = TERMS, words = "BITS are 0 .. 13")
    static void bitsAre0To13(Due due) {
        FileMaker made = framed(194, 1);
        for (int bits = 0; bits <= 13; bits++) {
            SegmentReader x = due.right("BITS " + bits, made.copy().scan(0, 0, bits, 1).scan(1, 63, bits, 1).end());
            due.is("scan(0, 4)", x.scan(0, 4), bits);
            due.is("scan(1, 4)", x.scan(1, 4), bits);
        }
        wrong(due, "BITS 14", made, 6, 5, 1, 1, 0, 0, 0, 14);
        wrong(due, "BITS 15", made, 6, 5, 1, 1, 0, 0, 0, 15);
        wrong(due, "BEFORE 15, BITS 14", made, 6, 5, 1, 1, 0, 0, 0, 0xFE);
    }

    @Holds(under = TERMS, words = "BEFORE is 0 for coefficients of which there was no SCAN before")
    static void beforeIs0AtFirst(Due due) {
        FileMaker made = framed(194, 1, 2);
        int last = made.size() + 9;
        for (int bits = 0; bits <= 13; bits++) {
            due.fault("BITS " + bits, made.copy().scan(0, 0, 16 * (bits + 1) + bits, 1), 6, last);
        }
        FileMaker begun = made.copy().scan(0, 0, 3, 1);
        due.fault("coefficients of their own", begun.copy().scan(1, 1, 0x32, 1), 6, begun.size() + 9);
        due.fault("components of their own", begun.copy().scan(0, 0, 0x32, 2), 6, begun.size() + 9);
        FileMaker some = begun.copy().scan(2, 5, 3, 1);
        due.fault("the one ahead", some.copy().scan(1, 1, 0x32, 1), 6, some.size() + 9);
        due.fault("the one behind", some.copy().scan(6, 6, 0x32, 1), 6, some.size() + 9);
        due.fault("the last one", some.copy().scan(63, 63, 0x32, 1), 6, some.size() + 9);
        due.fault("one of several ahead", some.copy().scan(1, 5, 0x32, 1), 6, some.size() + 9);
        due.fault("one of several behind", some.copy().scan(2, 6, 0x32, 1), 6, some.size() + 9);
        due.right("all there", some.scan(2, 5, 0x32, 1).scan(0, 0, 0, 2).end());
    }

    @Holds(under = TERMS, words = "else BITS + 1 and the BITS of the SCAN that was the latest for each of them.")
    static void beforeIsTheBitsOfTheLatestScan(Due due) {
        FileMaker made = framed(194, 1, 2).scan(0, 0, 2, 1);
        int last = made.size() + 9;
        for (int both = 0; both < 256; both++) {
            FileMaker next = made.copy().scan(0, 0, both, 1).scan(0, 0, 0, 2).end();
            if (both == 0x21) {
                due.right("BEFORE, BITS " + both, next);
            } else {
                due.fault("BEFORE, BITS " + both, next, 6, last);
            }
        }
    }

    @Holds(under = TERMS, words = "else BITS + 1 and the BITS of the SCAN that was the latest for each of them.")
    static void theLatestScanOfEachCoefficientCounts(Due due) {
        FileMaker made = framed(194, 1).scan(0, 0, 0, 1).scan(1, 10, 3, 1).scan(1, 4, 0x32, 1).scan(11, 63, 2, 1);
        int last = made.size() + 9;
        due.fault("two latest ones", made.copy().scan(1, 10, 0x32, 1), 6, last);
        due.fault("the first one is another", made.copy().scan(4, 10, 0x32, 1), 6, last);
        due.fault("the last one is another", made.copy().scan(5, 11, 0x32, 1), 6, last);
        due.fault("not the latest", made.copy().scan(1, 4, 0x32, 1), 6, last);
        due.fault("none before", made.copy().scan(1, 4, 0, 1), 6, last);
        due.right("all of them", made.copy().scan(5, 10, 0x32, 1).scan(1, 63, 0x21, 1).scan(1, 63, 0x10, 1).end());
        due.right("one after the other", made.copy().scan(4, 4, 0x21, 1).scan(63, 63, 0x21, 1).end());
    }

    @Holds(under = TERMS, words = "else BITS + 1 and the BITS of the SCAN that was the latest for each of them.")
    static void eachComponentHasItsOwnLatestScan(Due due) {
        FileMaker made = framed(194, 1, 2, 3).scan(0, 0, 2, 1, 3).scan(0, 0, 1, 2);
        int last = made.size() + 9;
        due.fault("the second is another", made.copy().scan(0, 0, 0x21, 1, 2), 6, last + 2);
        due.fault("the first is another", made.copy().scan(0, 0, 0x10, 1, 2), 6, last + 2);
        due.right("both are the same", made.copy().scan(0, 0, 0x21, 1, 3).scan(0, 0, 0x10, 1, 2, 3).end());
        due.fault("behind BITS 0", made.copy().scan(0, 0, 0x10, 2).scan(0, 0, 0, 2), 6, last + 10);
    }

    private static FileMaker needy(int code) {
        return FileMaker.begun().segment(code, 8, 0, 9, 0, 9, 2, 1, 0x11, 0, 2, 0x11, 3);
    }

    @Holds(under = TERMS, words = "All tables that its components need are there: their QUANTISERS")
    static void quantisersAreThere(Due due) {
        for (int code : new int[] {192, 194}) {
            int last = last(code);
            FileMaker made = needy(code).words(0, 1).words(16, 1).quantisers(1, 1).quantisers(2, 1);
            due.fault("none", made.copy().scan(0, last, 0, 1), 8, made.size() + 5);
            FileMaker one = made.copy().quantisers(0, 1);
            due.fault("for the second none", one.copy().scan(0, last, 0, 1, 2), 8, one.size() + 7);
            due.right("told between SCANS", one.copy().scan(0, last, 0, 1).quantisers(3, 1).scan(0, last, 0, 2).end());
            FileMaker other = made.copy().quantisers(3, 1);
            due.fault("for the first none", other.copy().scan(0, last, 0, 1, 2), 8, other.size() + 5);
            due.right("not needed yet", other.copy().scan(0, last, 0, 2).quantisers(0, 1).scan(0, last, 0, 1).end());
        }
    }

    @Holds(under = TERMS, words = "DC tables if FIRST is 0 and BEFORE 0")
    static void dcTablesAreThereAtFirst(Due due) {
        for (int code : new int[] {192, 194}) {
            int last = last(code);
            FileMaker made = needy(code).quantisers(0, 1).quantisers(3, 1).words(16, 1).words(1, 1);
            due.fault("none", made.copy().scan(0, last, 0, 1), 8, made.size() + 6);
            due.fault("of the second", made.copy().segment(218, 2, 1, 0x10, 2, 0x20, 0, last, 0), 8, made.size() + 8);
            due.fault("of the first", made.copy().segment(218, 2, 1, 0x30, 2, 0x10, 0, last, 0), 8, made.size() + 6);
            due.right("there", made.copy().segment(218, 2, 1, 0x10, 2, 0x10, 0, last, 0).end());
        }
    }

    @Holds(under = TERMS, words = "DC tables if FIRST is 0 and BEFORE 0")
    static void dcTablesAreNotNeededLater(Due due) {
        FileMaker made = needy(194).quantisers(0, 1).quantisers(3, 1).words(1, 1).words(18, 1)
            .segment(218, 2, 1, 0x10, 2, 0x10, 0, 0, 1);
        due.right("with BEFORE", made.copy().scan(0, 0, 0x10, 1, 2).end());
        due.right("with FIRST above 0", made.copy().segment(218, 1, 1, 0x22, 1, 5, 1).end());
        due.right("with both", made.copy().segment(218, 1, 1, 0x22, 1, 5, 1).segment(218, 1, 1, 0x32, 1, 5, 0x10).end());
    }

    @Holds(under = TERMS, words = "AC tables if LAST is above 0.")
    static void acTablesAreThereIfLastIsAbove0(Due due) {
        FileMaker made = needy(192).quantisers(0, 1).quantisers(3, 1).words(0, 1).words(18, 1);
        due.fault("none", made.copy().scan(0, 63, 0, 1), 8, made.size() + 6);
        due.fault("of the second", made.copy().segment(218, 2, 1, 2, 2, 1, 0, 63, 0), 8, made.size() + 8);
        due.right("there", made.copy().segment(218, 2, 1, 2, 2, 2, 0, 63, 0).end());
        FileMaker later = needy(194).quantisers(0, 1).quantisers(3, 1).words(0, 1).words(18, 1).scan(0, 0, 0, 1, 2);
        due.fault("progressive", later.copy().segment(218, 1, 1, 1, 1, 1, 1), 8, later.size() + 6);
        FileMaker again = later.copy().segment(218, 1, 1, 2, 1, 1, 1);
        due.fault("with BEFORE, too", again.copy().segment(218, 1, 1, 3, 1, 1, 0x10), 8, again.size() + 6);
        due.right("there", again.copy().segment(218, 1, 1, 2, 1, 1, 0x10).end());
    }

    @Holds(under = TERMS, words = "AC tables if LAST is above 0.")
    static void acTablesAreNotNeededWithLast0(Due due) {
        FileMaker made = needy(194).quantisers(0, 1).quantisers(3, 1).words(0, 1);
        due.right("with LAST 0", made.copy().scan(0, 0, 1, 1, 2).scan(0, 0, 0x10, 1, 2).end());
    }

    @Holds(under = TERMS, words = "All tables that its components need are there")
    static void dcAndAcTablesOfOneNumberAreTwo(Due due) {
        FileMaker made = needy(192).quantisers(0, 1).quantisers(3, 1).words(1, 1).words(16, 1);
        due.fault("DC 0 by AC 0", made.copy().scan(0, 63, 0, 1), 8, made.size() + 6);
        due.fault("AC 1 by DC 1", made.copy().segment(218, 1, 1, 0x11, 0, 63, 0), 8, made.size() + 6);
        due.right("DC 1 and AC 0", made.copy().segment(218, 2, 1, 0x10, 2, 0x10, 0, 63, 0).end());
    }
}
