/** Terms: the FRAME and LINES. */
public final class TermsFrameTest {
    private static final String TERMS = "Terms";

    public static void main(String[] args) {
        Sentences.run(TermsFrameTest.class);
    }

    private static int[] contents() {
        return new int[] {8, 0, 16, 0, 24, 2, 1, 0x11, 0, 2, 0x22, 3};
    }

    private static int[] changed(int at, int value) {
        int[] contents = contents();
        contents[at] = value;
        return contents;
    }

    /** A file with these CONTENTS of its FRAME, of both kinds, is right. */
    private static void right(Due due, String what, int[] contents) {
        FileMaker tables = FileMaker.withTables().quantisers(1, 1).quantisers(2, 1).quantisers(3, 1);
        int one = contents[6];
        int two = contents[9];
        due.right(what, tables.copy().segment(192, contents).scan(0, 63, 0, one, two).end());
        due.right(what, tables.copy().segment(194, contents).scan(0, 0, 0, one, two).end());
    }

    private static void wrong(Due due, String what, int[] contents, int at) {
        due.faultAtOnce(what, FileMaker.begun().segment(192, contents), 6, 6 + at);
        due.faultAtOnce(what, FileMaker.begun().segment(194, contents), 6, 6 + at);
    }

    @Holds(under = TERMS, words = "192 or 194 FRAME, sequential or progressive, once")
    static void the192IsSequentialAndThe194Progressive(Due due) {
        due.right("192", FileMaker.framed(192).scan(0, 63, 0, 1).end());
        due.right("194", FileMaker.framed(194).scan(0, 0, 0, 1).end());
        due.fault("192 as progressive", FileMaker.framed(192).scan(0, 0, 0, 1), 6, FileMaker.framed(192).size() + 8);
        due.fault("194 as sequential", FileMaker.framed(194).scan(0, 63, 0, 1), 6, FileMaker.framed(194).size() + 8);
    }

    @Holds(under = TERMS, words = "192 or 194 FRAME, sequential or progressive, once")
    static void theCodesBesideTheseCanNotBe(Due due) {
        for (int code : new int[] {191, 193, 195, 197, 198, 207}) {
            due.faultAtOnce("CODE " + code, FileMaker.withTables().segment(code, contents()), 4,
                FileMaker.withTables().size() + 1);
        }
    }

    @Holds(under = TERMS, words = "192 or 194 FRAME, sequential or progressive, once")
    static void aSecondFrameCanNotBe(Due due) {
        for (int first : new int[] {192, 194}) {
            for (int second : new int[] {192, 194}) {
                FileMaker made = FileMaker.framed(first);
                int place = made.size() + 1;
                due.faultAtOnce("at once", made.frame(second, 16, 0x11, 2), 4, place);
                FileMaker later = FileMaker.framed(first).scan(0, first == 192 ? 63 : 0, 0, 1).put(1);
                place = later.size() + 1;
                due.faultAtOnce("behind a SCAN", later.frame(second, 16, 0x11, 2), 4, place);
            }
        }
    }

    @Holds(under = TERMS, words = "a byte 8; two bytes HEIGHT")
    static void theFirstByteIs8(Due due) {
        right(due, "8", contents());
        for (int value : new int[] {0, 1, 7, 9, 12, 16, 255}) {
            wrong(due, "first byte " + value, changed(0, value), 0);
        }
    }

    @Holds(under = TERMS, words = "two bytes HEIGHT 0 .. 64")
    static void heightsFrom1To64(Due due) {
        for (int height : new int[] {1, 2, 63, 64}) {
            right(due, "HEIGHT " + height, changed(2, height));
        }
        for (int height : new int[] {65, 128, 255}) {
            wrong(due, "HEIGHT " + height, changed(2, height), 2);
        }
        for (int upper : new int[] {1, 64, 255}) {
            wrong(due, "HEIGHT 256 * " + upper + " + 16", changed(1, upper), 2);
        }
        int[] contents = changed(1, 1);
        contents[2] = 0;
        wrong(due, "HEIGHT 256", contents, 2);
    }

    @Holds(under = TERMS, words = "two bytes HEIGHT 0 .. 64")
    static void aHeightOf0CanBe(Due due) {
        FileMaker made = FileMaker.withTables().segment(192, 8, 0, 0, 0, 9, 1, 1, 0x11, 0).scan(0, 63, 0, 1)
            .segment(220, 0, 5).end();
        due.is("HEIGHT", due.right("0", made).frame(2), 5);
    }

    @Holds(under = TERMS, words = "two WIDTH 1 .. 64")
    static void widthsFrom1To64(Due due) {
        for (int width : new int[] {1, 2, 63, 64}) {
            right(due, "WIDTH " + width, changed(4, width));
        }
        for (int width : new int[] {0, 65, 128, 255}) {
            wrong(due, "WIDTH " + width, changed(4, width), 4);
        }
        for (int upper : new int[] {1, 64, 255}) {
            wrong(due, "WIDTH 256 * " + upper + " + 24", changed(3, upper), 4);
        }
        int[] contents = changed(3, 1);
        contents[4] = 0;
        wrong(due, "WIDTH 256", contents, 4);
    }

    @Holds(under = TERMS, words = "a byte, 1 .. 4 COMPONENTS")
    static void oneToFourComponents(Due due) {
        int[] names = {};
        for (int count = 1; count <= 4; count++) {
            names = FileMaker.joined(names, 10 * count);
            SegmentReader x = due.right(count + " components", FileMaker.withTables()
                .frame(192, 16, 0x11, names).scan(0, 63, 0, names).end());
            due.is("frame(3)", x.frame(3), count);
        }
        wrong(due, "none", changed(5, 0), 5);
        wrong(due, "five", FileMaker.joined(changed(5, 5), 3, 0x11, 0, 4, 0x11, 0, 5, 0x11, 0), 5);
        wrong(due, "255", changed(5, 255), 5);
    }

    @Holds(under = TERMS, words = "a byte, its name (no two alike)")
    static void namesFrom0To255(Due due) {
        for (int name : new int[] {0, 3, 127, 128, 254, 255}) {
            right(due, "name " + name, changed(6, name));
        }
    }

    @Holds(under = TERMS, words = "a byte, its name (no two alike)")
    static void noTwoNamesAreAlike(Due due) {
        for (int first = 0; first < 4; first++) {
            for (int second = first + 1; second < 4; second++) {
                int[] contents = {8, 0, 16, 0, 24, 4, 9, 0x11, 0, 0, 0x11, 0, 255, 0x11, 0, 7, 0x11, 0};
                contents[6 + 3 * second] = contents[6 + 3 * first];
                wrong(due, "names " + first + " and " + second, contents, 6 + 3 * second);
            }
        }
    }

    @Holds(under = TERMS, words = "a byte 16 * H + V (each 1 or 2)")
    static void factorsOf1And2(Due due) {
        for (int factors = 0; factors < 256; factors++) {
            int h = factors / 16;
            int v = factors % 16;
            if ((h == 1 || h == 2) && (v == 1 || v == 2)) {
                right(due, "factors " + factors, changed(7, factors));
            } else {
                wrong(due, "factors " + factors, changed(7, factors), 7);
            }
        }
        for (int factors : new int[] {0x01, 0x10, 0x31, 0x13}) {
            wrong(due, "factors of the second", changed(10, factors), 10);
        }
    }

    @Holds(under = TERMS, words = "a byte 0 .. 3, its table of QUANTISERS.")
    static void tables0To3(Due due) {
        for (int table = 0; table < 256; table++) {
            if (table <= 3) {
                right(due, "table " + table, changed(8, table));
            } else {
                wrong(due, "table " + table, changed(8, table), 8);
            }
        }
        wrong(due, "table 4 of the second", changed(11, 4), 11);
    }

    private static FileMaker withoutHeight() {
        return FileMaker.withTables().frame(192, 0, 0x11, 1, 2).scan(0, 63, 0, 1).put(1);
    }

    @Holds(under = TERMS, words = "220 LINES: two bytes 1 .. 64")
    static void linesFrom1To64(Due due) {
        for (int lines : new int[] {1, 2, 63, 64}) {
            SegmentReader x = due.right("LINES " + lines, withoutHeight().segment(220, 0, lines)
                .scan(0, 63, 0, 2).end());
            due.is("HEIGHT", x.frame(2), lines);
        }
        int last = withoutHeight().size() + 5;
        for (int lines : new int[] {0, 65, 255, 256, 257, 320, 16384, 65535}) {
            due.faultAtOnce("LINES " + lines, withoutHeight().segment(220, lines >> 8, lines & 255)
                .scan(0, 63, 0, 2).end(), 6, last);
        }
    }

    @Holds(under = TERMS, words = "just behind the DATA of the first SCAN, if the FRAME's HEIGHT is 0")
    static void linesStandJustBehindTheFirstScan(Due due) {
        due.right("behind DATA", withoutHeight().segment(220, 0, 5).scan(0, 63, 0, 2).end());
        due.right("with more 255s", withoutHeight().put(255, 255).segment(220, 0, 5).scan(0, 63, 0, 2).end());
        due.right("without DATA", FileMaker.withTables().frame(192, 0, 0x11, 1).scan(0, 63, 0, 1)
            .segment(220, 0, 5).end());
        due.right("behind a RESTART", FileMaker.withTables().segment(221, 0, 1).frame(192, 0, 0x11, 1)
            .scan(0, 63, 0, 1).put(255, 208).segment(220, 0, 5).end());
        due.right("progressive", FileMaker.withTables().frame(194, 0, 0x11, 1).scan(0, 0, 1, 1).put(6)
            .segment(220, 0, 5).scan(0, 0, 0x10, 1).end());
    }

    @Holds(under = TERMS, words = "(it must be there then, and nowhere else)")
    static void nothingElseStandsWhereLinesMust(Due due) {
        int code = withoutHeight().size() + 1;
        for (int other = 0; other < 255; other++) {
            if (other != 0 && other != 220) {
                due.faultAtOnce("CODE " + other, withoutHeight().put(255, other, 0, 4, 0, 5), 4, code);
            }
        }
        due.faultAtOnce("behind two 255s", withoutHeight().put(255, 255, 217), 4, code + 1);
        due.faultAtOnce("0 behind two 255s", withoutHeight().put(255, 255, 0), 4, code + 1);
    }

    @Holds(under = TERMS, words = "(it must be there then, and nowhere else)")
    static void linesStandNowhereElse(Due due) {
        due.faultAtOnce("at the beginning", FileMaker.begun().segment(220, 0, 5), 4, 3);
        FileMaker framed = FileMaker.withTables().frame(192, 0, 0x11, 1, 2);
        due.faultAtOnce("behind the FRAME", framed.copy().segment(220, 0, 5), 4, framed.size() + 1);
        FileMaker twice = withoutHeight().segment(220, 0, 5);
        due.faultAtOnce("twice", twice.copy().segment(220, 0, 5), 4, twice.size() + 1);
        FileMaker second = twice.copy().scan(0, 63, 0, 2).put(1);
        due.faultAtOnce("behind the second SCAN", second.copy().segment(220, 0, 5), 4, second.size() + 1);
        FileMaker remark = withoutHeight().segment(254);
        due.faultAtOnce("behind a remark", remark.segment(220, 0, 5), 4, withoutHeight().size() + 1);
    }

    @Holds(under = TERMS, words = "if the FRAME's HEIGHT is 0 (it must be there then, and nowhere else)")
    static void linesDoNotStandWithAHeight(Due due) {
        for (int height : new int[] {1, 16, 64}) {
            FileMaker made = FileMaker.withTables().frame(192, height, 0x11, 1).scan(0, 63, 0, 1).put(1);
            due.faultAtOnce("HEIGHT " + height, made.copy().segment(220, 0, height).end(), 4, made.size() + 1);
            due.right("without LINES", made.end());
        }
    }

    @Holds(under = TERMS, words = "and nowhere else): the HEIGHT.")
    static void linesTellTheHeight(Due due) {
        SegmentReader x = due.right("read", withoutHeight().segment(220, 0, 33).scan(0, 63, 0, 2).end());
        due.is("frame(2)", x.frame(2), 33);
        due.is("its SEGMENT", x.segment(5, 0), 220);
        due.is("of two bytes", x.segment(5, 3), 2);
    }
}
