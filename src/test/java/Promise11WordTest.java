import java.util.Arrays;

/** Promise 11: the COUNTS and symbols of the tables of WORDS. */
public final class Promise11WordTest {
    private static final String PROMISE = "Promise 11: word";

    public static void main(String[] args) {
        Sentences.run(Promise11WordTest.class);
    }

    private static FileMaker framedAndScanned(FileMaker made) {
        return made.quantisers(0, 1).words(0, 1).words(16, 1).frame(192, 16, 0x11, 1).scan(0, 63, 0, 1);
    }

    private static SegmentReader with(Due due, int[]... tables) {
        int[] all = {};
        for (int[] table : tables) {
            all = FileMaker.joined(all, table);
        }
        return due.right("read", framedAndScanned(FileMaker.begun().segment(196, all)).end());
    }

    /** COUNTS of 0 are told for lengths beyond those given here. */
    private static void counts(Due due, SegmentReader x, int table, int... want) {
        for (int length = 1; length <= 16; length++) {
            int count = length <= want.length ? want[length - 1] : 0;
            due.is("word(" + table + ", 0, " + length + ")", x.word(table, 0, length), count);
        }
        due.is("word(" + table + ", 0, 0)", x.word(table, 0, 0), -1);
        due.is("word(" + table + ", 0, 17)", x.word(table, 0, 17), -1);
    }

    private static void symbols(Due due, SegmentReader x, int table, int... want) {
        due.row("word(" + table + ", 1, i)", i -> x.word(table, 1, i), want);
    }

    private static int[] downFrom255() {
        int[] symbols = new int[256];
        for (int i = 0; i < 256; i++) {
            symbols[i] = 255 - i;
        }
        return symbols;
    }

    @Holds(under = PROMISE, words = "Of a table of WORDS (0 .. 3 DC, 16 .. 19 AC)")
    static void eachTableIsToldByItsNumber(Due due) {
        FileMaker made = FileMaker.begun();
        for (int t = 0; t < 4; t++) {
            made.segment(196, FileMaker.joined(FileMaker.counts(t, 0, 1), t + 1));
            made.segment(196, FileMaker.joined(FileMaker.counts(16 + t, 0, 0, 1), t + 101));
        }
        SegmentReader x = due.right("read", made.quantisers(0, 1).frame(192, 16, 0x11, 1).scan(0, 63, 0, 1).end());
        for (int t = 0; t < 4; t++) {
            counts(due, x, t, 0, 1);
            counts(due, x, 16 + t, 0, 0, 1);
            due.is("symbol of " + t, x.word(t, 1, 0), t + 1);
            due.is("symbol of " + (16 + t), x.word(16 + t, 1, 0), t + 101);
            due.is("no second of " + t, x.word(t, 1, 1), -1);
            due.is("no second of " + (16 + t), x.word(16 + t, 1, 1), -1);
        }
    }

    @Holds(under = PROMISE, words = "what 0: COUNT of length i, 1 .. 16")
    static void theCountsAreThoseOf1To16(Due due) {
        int[] ones = {1, 1, 1, 1, 1, 1, 1, 1, 1, 1, 1, 1, 1, 1, 1, 1};
        int[] few = {0, 1, 2, 3, 4, 5, 6, 7, 8, 9, 10, 11, 12, 13, 14, 15};
        int[] rising = {0, 0, 1, 2, 3, 4, 5, 6, 7, 8, 9, 10, 11, 12, 13, 14};
        int[] many = Arrays.copyOf(downFrom255(), 105);
        SegmentReader x = with(due, FileMaker.joined(FileMaker.counts(17, ones), few),
            FileMaker.joined(FileMaker.counts(18, rising), many));
        counts(due, x, 17, ones);
        counts(due, x, 18, rising);
        due.far("word(17, 0, i)", i -> x.word(17, 0, i));
    }

    @Holds(under = PROMISE, words = "what 0: COUNT of length i, 1 .. 16")
    static void theGreatestCountIsTold(Due due) {
        SegmentReader x = with(due, FileMaker.joined(FileMaker.counts(19, 0, 0, 0, 0, 0, 0, 0, 0, 255, 1), downFrom255()));
        counts(due, x, 19, 0, 0, 0, 0, 0, 0, 0, 0, 255, 1);
    }

    @Holds(under = PROMISE, words = "1: symbol i, from 0 on.")
    static void theSymbolsAreToldInTheirOrder(Due due) {
        SegmentReader x = with(due, FileMaker.joined(FileMaker.counts(1, 0, 1, 2), 11, 0, 7),
            FileMaker.joined(FileMaker.counts(17, 1, 0, 2), 255, 0, 254));
        symbols(due, x, 1, 11, 0, 7);
        symbols(due, x, 17, 255, 0, 254);
    }

    @Holds(under = PROMISE, words = "1: symbol i, from 0 on.")
    static void theSymbolsOfWordsOfEachLengthAreTold(Due due) {
        for (int length = 1; length <= 16; length++) {
            int[] counts = new int[16];
            counts[length - 1] = 1;
            SegmentReader x = with(due, FileMaker.joined(FileMaker.counts(2, counts), 5),
                FileMaker.joined(FileMaker.counts(18, counts), 200));
            symbols(due, x, 2, 5);
            symbols(due, x, 18, 200);
        }
        int[] ones = {1, 1, 1, 1, 1, 1, 1, 1, 1, 1, 1, 1, 1, 1, 1, 1};
        int[] sixteen = Arrays.copyOf(downFrom255(), 16);
        symbols(due, with(due, FileMaker.joined(FileMaker.counts(17, ones), sixteen)), 17, sixteen);
    }

    @Holds(under = PROMISE, words = "1: symbol i, from 0 on.")
    static void twoHundredFiftySixSymbolsAreTold(Due due) {
        SegmentReader x = with(due, FileMaker.joined(FileMaker.counts(19, 0, 0, 0, 0, 0, 0, 0, 0, 255, 1), downFrom255()));
        symbols(due, x, 19, downFrom255());
    }

    @Holds(under = PROMISE, words = "as it is at the end of what was read")
    static void theLatestOfATableCounts(Due due) {
        SegmentReader x = with(due, FileMaker.joined(FileMaker.counts(2, 0, 3), 4, 5, 6),
            FileMaker.joined(FileMaker.counts(2, 1), 9));
        counts(due, x, 2, 1);
        symbols(due, x, 2, 9);
        SegmentReader y = due.right("behind the SCAN", framedAndScanned(FileMaker.begun()).words(0, 3).words(18, 2).end());
        counts(due, y, 0, 0, 3);
        symbols(due, y, 0, 0, 1, 2);
        symbols(due, y, 18, 0, 1);
    }

    @Holds(under = PROMISE, words = "as it is at the end of what was read")
    static void oneBehindTheEndDoesNotCount(Due due) {
        SegmentReader x = due.right("read", framedAndScanned(FileMaker.begun()).end().words(0, 3).words(1, 1).end());
        symbols(due, x, 0, 0);
        symbols(due, x, 1);
    }

    @Holds(under = PROMISE, words = "NONE if there is none such.")
    static void thereIsNoTableThatWasNotTold(Due due) {
        SegmentReader x = with(due, FileMaker.joined(FileMaker.counts(3, 1), 9), FileMaker.joined(FileMaker.counts(19, 1), 9));
        for (int table = -2; table < 40; table++) {
            boolean there = table == 0 || table == 3 || table == 16 || table == 19;
            due.is("COUNTS of " + table, x.word(table, 0, 2) >= 0, there);
            due.is("symbols of " + table, x.word(table, 1, 0) >= 0, there);
        }
        due.far("word(table, 0, 1)", table -> x.word(table, 0, 1));
        due.far("word(table, 1, 0)", table -> x.word(table, 1, 0));
    }

    @Holds(under = PROMISE, words = "NONE if there is none such.")
    static void thereIsNoWhatBeside0And1(Due due) {
        SegmentReader x = with(due, FileMaker.joined(FileMaker.counts(16, 0, 3), 7, 8, 9));
        for (int i = 0; i < 3; i++) {
            due.is("word(16, 2, i)", x.word(16, 2, i), -1);
            due.is("word(16, 3, i)", x.word(16, 3, i), -1);
        }
        due.far("word(16, what, 1)", what -> x.word(16, what, 1));
    }

    @Holds(under = PROMISE, words = "NONE if there is none such.")
    static void thereIsNoneAheadOfReadAndBehindAFault(Due due) {
        SegmentReader x = FileMaker.scanned().given();
        due.none("word(table, 0, 2)", table -> x.word(table, 0, 2), 20);
        due.none("word(table, 1, 0)", table -> x.word(table, 1, 0), 20);
        due.is("read()", x.read(), 1);
        due.none("word(table, 0, 2)", table -> x.word(table, 0, 2), 20);
        due.none("word(table, 1, 0)", table -> x.word(table, 1, 0), 20);
    }
}
