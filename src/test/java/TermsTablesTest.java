import java.util.Arrays;

/** Terms: QUANTISERS, WORDS and INTERVAL. */
public final class TermsTablesTest {
    private static final String TERMS = "Terms";

    public static void main(String[] args) {
        Sentences.run(TermsTablesTest.class);
    }

    private static SegmentReader right(Due due, String what, FileMaker made) {
        return due.right(what, made.quantisers(0, 1).words(0, 1).words(16, 1).frame(192, 16, 0x11, 1)
            .scan(0, 63, 0, 1).end());
    }

    /** A table of WORDS with these COUNTS and the symbols 0, 1 and so on. */
    private static int[] table(int table, int... counts) {
        int total = 0;
        for (int count : counts) {
            total += count;
        }
        int[] symbols = new int[Math.min(256, total)];
        for (int i = 0; i < symbols.length; i++) {
            symbols[i] = i;
        }
        return FileMaker.joined(FileMaker.counts(table, counts), symbols);
    }

    private static void rightCounts(Due due, String what, int... counts) {
        right(due, what, FileMaker.begun().segment(196, table(17, counts)));
    }

    /** The COUNT of that length is the one with which it is seen. */
    private static void wrongCounts(Due due, String what, int length, int... counts) {
        due.faultAtOnce(what, FileMaker.begun().segment(196, table(17, counts)), 6, 6 + length);
    }

    @Holds(under = TERMS, words = "219 QUANTISERS: one or more of")
    static void oneOrMoreTablesOfQuantisers(Due due) {
        due.fault("none", FileMaker.begun().segment(219), 5, 4);
        right(due, "one", FileMaker.begun().quantisers(1, 1));
        int[] all = {};
        for (int i = 0; i < 58; i++) {
            all = FileMaker.joined(all, FileMaker.quantiserTable(i % 4, 1 + i));
            SegmentReader x = right(due, i + 1 + " tables", FileMaker.begun().segment(219, all));
            due.is("the last one", x.quantiser(i % 4, 1), i % 4 == 0 ? 2 : i + 2);
        }
    }

    @Holds(under = TERMS, words = "a byte 0 .. 3, the table; 64 bytes")
    static void tables0To3OfQuantisers(Due due) {
        for (int table = 0; table < 256; table++) {
            FileMaker made = FileMaker.begun().quantisers(table, 1);
            if (table <= 3) {
                right(due, "table " + table, made);
            } else {
                due.faultAtOnce("table " + table, made, 6, 6);
            }
        }
        int[] second = FileMaker.joined(FileMaker.quantiserTable(3, 1), FileMaker.quantiserTable(4, 1));
        due.faultAtOnce("the second one", FileMaker.begun().segment(219, second), 6, 71);
    }

    @Holds(under = TERMS, words = "64 bytes 1 .. 255, in ZIGZAG order.")
    static void valuesOf0CanNotBe(Due due) {
        for (int k = 0; k < 64; k++) {
            int[] contents = FileMaker.quantiserTable(2, 190);
            contents[1 + k] = 0;
            due.faultAtOnce("value " + k, FileMaker.begun().segment(219, contents), 6, 7 + k);
        }
    }

    @Holds(under = TERMS, words = "64 bytes 1 .. 255, in ZIGZAG order.")
    static void valuesOf1And255CanBe(Due due) {
        int[] contents = new int[65];
        Arrays.fill(contents, 1);
        SegmentReader ones = right(due, "all 1", FileMaker.begun().segment(219, contents));
        due.is("quantiser(1, 0)", ones.quantiser(1, 0), 1);
        due.is("quantiser(1, 63)", ones.quantiser(1, 63), 1);
        Arrays.fill(contents, 1, 65, 255);
        SegmentReader most = right(due, "all 255", FileMaker.begun().segment(219, contents));
        due.is("quantiser(1, 0)", most.quantiser(1, 0), 255);
        due.is("quantiser(1, 63)", most.quantiser(1, 63), 255);
    }

    @Holds(under = TERMS, words = "64 bytes 1 .. 255, in ZIGZAG order.")
    static void aTableHas64Values(Due due) {
        int[] table = FileMaker.quantiserTable(1, 1);
        due.fault("63 values", FileMaker.begun().segment(219, Arrays.copyOf(table, 64)), 5, 4);
        due.fault("65 values", FileMaker.begun().segment(219, FileMaker.joined(table, 1)), 5, 4);
    }

    @Holds(under = TERMS, words = "A table told again is that from there on.")
    static void aTableToldAgainTakesTheOthersPlace(Due due) {
        SegmentReader x = due.right("read", FileMaker.begun().quantisers(0, 9).quantisers(1, 20).quantisers(0, 30)
            .words(0, 1).words(16, 1).frame(192, 16, 0x11, 1).scan(0, 63, 0, 1).quantisers(1, 40).end());
        due.is("quantiser(0, 5)", x.quantiser(0, 5), 35);
        due.is("quantiser(1, 5)", x.quantiser(1, 5), 45);
    }

    @Holds(under = TERMS, words = "196 WORDS: one or more of")
    static void oneOrMoreTablesOfWords(Due due) {
        due.fault("none", FileMaker.begun().segment(196), 5, 4);
        right(due, "one", FileMaker.begun().words(1, 1));
        int[] all = {};
        int[] tables = {0, 1, 2, 3, 16, 17, 18, 19};
        for (int i = 0; i < 200; i++) {
            int table = tables[i % 8];
            all = FileMaker.joined(all, FileMaker.joined(FileMaker.counts(table, 0, 1), i % 12));
            SegmentReader x = right(due, i + 1 + " tables", FileMaker.begun().segment(196, all));
            due.is("the last one", x.word(table, 1, 0), table == 0 || table == 16 ? 0 : i % 12);
        }
    }

    @Holds(under = TERMS, words = "a byte: 0 .. 3 a DC table, 16 .. 19 an AC table")
    static void tables0To3And16To19OfWords(Due due) {
        for (int table = 0; table < 256; table++) {
            FileMaker made = FileMaker.begun().words(table, 2);
            if (table <= 3 || table >= 16 && table <= 19) {
                right(due, "table " + table, made);
            } else {
                due.faultAtOnce("table " + table, made, 6, 6);
            }
        }
        int[] second = FileMaker.joined(table(1, 0, 2), table(4, 0, 2));
        due.faultAtOnce("the second one", FileMaker.begun().segment(196, second), 6, 25);
    }

    @Holds(under = TERMS, words = "sixteen COUNTS, of words of 1 .. 16 bits, together 1 .. 256")
    static void oneWordIsEnough(Due due) {
        for (int length = 1; length <= 16; length++) {
            int[] counts = new int[16];
            counts[length - 1] = 1;
            rightCounts(due, "one of " + length + " bits", counts);
        }
        wrongCounts(due, "none", 16);
    }

    @Holds(under = TERMS, words = "sixteen COUNTS, of words of 1 .. 16 bits, together 1 .. 256")
    static void twoHundredFiftySixWordsAreNotTooMany(Due due) {
        rightCounts(due, "255", 0, 0, 0, 0, 0, 0, 0, 0, 255);
        rightCounts(due, "256 in two lengths", 0, 0, 0, 0, 0, 0, 0, 0, 255, 1);
        rightCounts(due, "256 at the end", 0, 0, 0, 0, 0, 0, 0, 0, 0, 0, 0, 0, 0, 0, 1, 255);
        rightCounts(due, "256 in all lengths", 0, 0, 1, 2, 3, 4, 5, 6, 7, 8, 9, 10, 11, 12, 13, 165);
        rightCounts(due, "128 and 128", 0, 0, 0, 0, 0, 0, 0, 0, 128, 0, 0, 128);
    }

    @Holds(under = TERMS, words = "sixteen COUNTS, of words of 1 .. 16 bits, together 1 .. 256")
    static void twoHundredFiftySevenWordsAreTooMany(Due due) {
        wrongCounts(due, "255 and 2", 10, 0, 0, 0, 0, 0, 0, 0, 0, 255, 2);
        wrongCounts(due, "2 and 255", 10, 0, 0, 0, 0, 0, 0, 0, 0, 2, 255);
        wrongCounts(due, "256 and 1", 16, 0, 0, 0, 0, 0, 0, 0, 0, 0, 255, 0, 0, 0, 0, 1, 1);
        wrongCounts(due, "255 and 255", 13, 0, 0, 0, 0, 0, 0, 0, 0, 0, 255, 0, 0, 255);
        wrongCounts(due, "257 at the end", 16, 0, 0, 1, 2, 3, 4, 5, 6, 7, 8, 9, 10, 11, 12, 13, 166);
    }

    /** The length whose COUNT makes a word of all 1s or more, as the words come one by one; 16 if there is no word; 0 if all are right. */
    private static int wrongLength(int... counts) {
        String word = "";
        for (int length = 1; length <= counts.length; length++) {
            for (int i = 0; i < counts[length - 1]; i++) {
                if (word.isEmpty()) {
                    word = "0".repeat(length);
                } else {
                    int next = Integer.parseInt(word, 2) + 1 << length - word.length();
                    word = Integer.toBinaryString((1 << length) + next).substring(1);
                }
                if (word.length() != length || word.indexOf('0') < 0) {
                    return length;
                }
            }
        }
        return word.isEmpty() ? 16 : 0;
    }

    @Holds(under = TERMS, words = "each further one the one before, as a number, plus 1, with as many 0s behind it as it is longer")
    static void allCountsOfUpTo4BitsAreAsTheirWords(Due due) {
        for (int n = 0; n < 3 * 5 * 9 * 17; n++) {
            int[] counts = {n % 3, n / 3 % 5, n / 15 % 9, n / 135};
            FileMaker made = FileMaker.begun().segment(196, table(17, counts));
            int wrong = wrongLength(counts);
            String what = "COUNTS " + Arrays.toString(counts);
            due.fault(what, made, wrong == 0 ? 1 : 6, wrong == 0 ? made.size() : 6 + wrong);
        }
    }

    @Holds(under = TERMS, words = "(a word being as many 0s as its length says for the first one")
    static void theFirstWordIsOf0s(Due due) {
        rightCounts(due, "15 of 4 bits", 0, 0, 0, 15);
        rightCounts(due, "one of 16 bits", 0, 0, 0, 0, 0, 0, 0, 0, 0, 0, 0, 0, 0, 0, 0, 1);
        wrongCounts(due, "16 of 4 bits", 4, 0, 0, 0, 16);
    }

    @Holds(under = TERMS, words = "none may be all 1s or more than that")
    static void asManyWordsAsALengthHasButOne(Due due) {
        rightCounts(due, "0", 1);
        rightCounts(due, "00 .. 10", 0, 3);
        rightCounts(due, "000 .. 110", 0, 0, 7);
        rightCounts(due, "of 7 bits", 0, 0, 0, 0, 0, 0, 127);
        rightCounts(due, "of 8 bits", 0, 0, 0, 0, 0, 0, 0, 255);
        rightCounts(due, "0, 10, 110 and so on", 1, 1, 1, 1, 1, 1, 1, 1, 1, 1, 1, 1, 1, 1, 1, 1);
        rightCounts(due, "0, 100 .. 110", 1, 0, 3);
        rightCounts(due, "00, 01, 10, 1100 .. 1110", 0, 3, 0, 3);
    }

    @Holds(under = TERMS, words = "none may be all 1s or more than that")
    static void aWordOfAll1sCanNotBe(Due due) {
        wrongCounts(due, "0, 1", 1, 2);
        wrongCounts(due, "00 .. 11", 2, 0, 4);
        wrongCounts(due, "000 .. 111", 3, 0, 0, 8);
        wrongCounts(due, "of 7 bits", 7, 0, 0, 0, 0, 0, 0, 128);
        wrongCounts(due, "0, 10, 11", 2, 1, 2);
        wrongCounts(due, "0, 100 .. 111", 3, 1, 0, 4);
        wrongCounts(due, "0, 1000 .. 1111", 4, 1, 0, 0, 8);
        wrongCounts(due, "of 8 bits behind one of 7", 8, 0, 0, 0, 0, 0, 0, 1, 254);
        wrongCounts(due, "of 15 bits", 15, 1, 1, 1, 1, 1, 1, 1, 1, 1, 1, 1, 1, 1, 1, 2);
        wrongCounts(due, "of 16 bits", 16, 1, 1, 1, 1, 1, 1, 1, 1, 1, 1, 1, 1, 1, 1, 1, 2);
    }

    @Holds(under = TERMS, words = "none may be all 1s or more than that")
    static void wordsBeyondAll1sCanNotBe(Due due) {
        wrongCounts(due, "three of 1 bit", 1, 3);
        wrongCounts(due, "255 of 1 bit", 1, 255);
        wrongCounts(due, "five of 2 bits", 2, 0, 5);
        wrongCounts(due, "255 of 7 bits", 7, 0, 0, 0, 0, 0, 0, 255);
        wrongCounts(due, "three behind 0", 2, 1, 3);
        wrongCounts(due, "many of 16 bits", 16, 1, 1, 1, 1, 1, 1, 1, 1, 1, 1, 1, 1, 1, 1, 1, 200);
    }

    @Holds(under = TERMS, words = "as many bytes, the symbols, none twice")
    static void asManySymbolsAsWords(Due due) {
        int[] head = FileMaker.counts(18, 0, 2, 1);
        right(due, "three", FileMaker.begun().segment(196, FileMaker.joined(head, 7, 8, 9)));
        due.fault("two", FileMaker.begun().segment(196, FileMaker.joined(head, 7, 8)), 5, 4);
        due.fault("four", FileMaker.begun().segment(196, FileMaker.joined(head, 7, 8, 9, 1)), 5, 4);
        due.fault("none", FileMaker.begun().segment(196, head), 5, 4);
    }

    @Holds(under = TERMS, words = "as many bytes, the symbols, none twice")
    static void noSymbolIsThereTwice(Due due) {
        for (int symbol : new int[] {0, 1, 31, 32, 62, 63, 64, 65, 127, 128, 191, 192, 254, 255}) {
            int[] head = FileMaker.counts(18, 0, 3);
            int other = symbol == 7 ? 8 : 7;
            due.faultAtOnce("at once " + symbol, FileMaker.begun()
                .segment(196, FileMaker.joined(head, symbol, symbol, other)), 6, 24);
            due.faultAtOnce("at last " + symbol, FileMaker.begun()
                .segment(196, FileMaker.joined(head, symbol, other, symbol)), 6, 25);
        }
        due.faultAtOnce("in a DC table", FileMaker.begun()
            .segment(196, FileMaker.joined(FileMaker.counts(2, 0, 3), 11, 0, 11)), 6, 25);
    }

    @Holds(under = TERMS, words = "as many bytes, the symbols, none twice")
    static void symbolsThatDifferInOneBitAreNotTheSame(Due due) {
        int[] head = FileMaker.counts(18, 0, 0, 3);
        for (int bit = 1; bit < 256; bit *= 2) {
            right(due, "bit " + bit, FileMaker.begun().segment(196, FileMaker.joined(head, 85, 85 ^ bit, 0)));
        }
    }

    @Holds(under = TERMS, words = "as many bytes, the symbols, none twice")
    static void twoTablesMayHaveTheSameSymbols(Due due) {
        right(due, "in one SEGMENT", FileMaker.begun().segment(196, FileMaker.joined(table(17, 0, 3), table(18, 0, 3))));
        right(due, "in two", FileMaker.begun().words(17, 3).words(18, 3));
        right(due, "a table told again", FileMaker.begun().words(17, 3).words(17, 3));
    }

    @Holds(under = TERMS, words = "in a DC table 0 .. 11 alone.")
    static void aDcTableHasSymbols0To11(Due due) {
        for (int table = 0; table < 4; table++) {
            right(due, "0 .. 11", FileMaker.begun().segment(196, table(table, 0, 0, 0, 12)));
            for (int symbol : new int[] {12, 13, 16, 63, 64, 75, 128, 255}) {
                due.faultAtOnce("symbol " + symbol, FileMaker.begun()
                    .segment(196, FileMaker.joined(FileMaker.counts(table, 0, 2), 3, symbol)), 6, 24);
            }
        }
        due.faultAtOnce("thirteen", FileMaker.begun().segment(196, table(1, 0, 0, 0, 13)), 6, 35);
    }

    @Holds(under = TERMS, words = "in a DC table 0 .. 11 alone.")
    static void anAcTableHasAllSymbols(Due due) {
        for (int table = 16; table < 20; table++) {
            right(due, "12 and more", FileMaker.begun()
                .segment(196, FileMaker.joined(FileMaker.counts(table, 0, 0, 5), 12, 16, 128, 254, 255)));
        }
    }

    @Holds(under = TERMS, words = "221 INTERVAL: two bytes, 0 (none; so at first)")
    static void thereIsNoIntervalAtFirstAndWith0(Due due) {
        FileMaker none = FileMaker.scanned();
        due.is("INTERVAL at first", due.right("none", none.copy().end()).scan(0, 8), 0);
        due.fault("a RESTART without one", none.copy().put(255, 208).end(), 4, none.size() + 1);
        FileMaker zero = FileMaker.withTables().segment(221, 0, 3).segment(221, 0, 0).frame(192, 16, 0x11, 1)
            .scan(0, 63, 0, 1);
        due.is("INTERVAL 0", due.right("0", zero.copy().end()).scan(0, 8), 0);
        due.fault("a RESTART with 0", zero.copy().put(255, 208).end(), 4, zero.size() + 1);
    }

    @Holds(under = TERMS, words = "or how many units there are between two restarts.")
    static void intervalsFrom1To65535(Due due) {
        for (int interval : new int[] {1, 2, 255, 256, 257, 32767, 32768, 65280, 65535}) {
            SegmentReader x = due.right("INTERVAL " + interval, FileMaker.withTables()
                .segment(221, interval >> 8, interval & 255).frame(192, 16, 0x11, 1).scan(0, 63, 0, 1)
                .put(255, 208).end());
            due.is("scan(0, 8)", x.scan(0, 8), interval);
            due.is("look(5)", x.look(5), interval);
        }
    }
}
