/** Promise 3: the INPUT is emptied and what was read is forgotten. */
public final class Promise03WipeTest {
    private static final String PROMISE = "Promise 3: wipe";

    public static void main(String[] args) {
        Sentences.run(Promise03WipeTest.class);
    }

    /** What is read of the second file is not told apart by the first one, read and wiped ahead of it. */
    private static void nothingIsLeft(Due due, String what, FileMaker first, FileMaker second, int fault) {
        SegmentReader x = first.given();
        x.read();
        x.wipe();
        second.giveTo(x);
        due.is(what + ": read()", x.read(), fault);
        SegmentReader other = second.given();
        other.read();
        due.same(what, x, other);
    }

    @Holds(under = PROMISE, words = "The INPUT is empty")
    static void nothingIsInTheInput(Due due) {
        SegmentReader x = FileMaker.scanned().end().given();
        x.wipe();
        due.is("look(0)", x.look(0), 0);
        due.is("read()", x.read(), 1);
        due.is("look(2)", x.look(2), 0);
    }

    @Holds(under = PROMISE, words = "The INPUT is empty")
    static void anEmptyInputStaysEmpty(Due due) {
        SegmentReader x = new SegmentReader();
        x.wipe();
        due.nothingRead("wiped at first", x, 0);
        x.wipe();
        due.is("wiped again", x.look(0), 0);
        due.is("give", x.give(7L, 1), true);
        due.is("look(0)", x.look(0), 1);
        due.is("read()", x.read(), 2);
    }

    @Holds(under = PROMISE, words = "all is as ahead of any read().")
    static void aFileThatWasReadIsForgotten(Due due) {
        SegmentReader x = due.right("read", FileMaker.scanned().put(1).segment(221, 0, 3).end());
        x.wipe();
        due.nothingRead("wiped", x, 0);
    }

    @Holds(under = PROMISE, words = "all is as ahead of any read().")
    static void aFaultIsForgotten(Due due) {
        SegmentReader x = FileMaker.scanned().put(1).given();
        due.is("read()", x.read(), 1);
        x.wipe();
        due.nothingRead("wiped", x, 0);
        due.is("look(1)", x.look(1), 0);
        due.is("look(2)", x.look(2), -1);
    }

    @Holds(under = PROMISE, words = "all is as ahead of any read().")
    static void nothingIsLeftForTheNextFile(Due due) {
        FileMaker right = FileMaker.scanned().put(1).segment(221, 0, 9).end();
        FileMaker bare = FileMaker.begun().frame(192, 16, 0x11, 1).scan(0, 63, 0, 1).end();
        nothingIsLeft(due, "no FRAME", right, FileMaker.withTables().scan(0, 63, 0, 1), 4);
        nothingIsLeft(due, "a FRAME again", right, right, 0);
        nothingIsLeft(due, "no tables", right, bare, 8);
        nothingIsLeft(due, "no QUANTISERS", right, FileMaker.begun().words(0, 1).words(16, 1)
            .frame(192, 16, 0x11, 1).scan(0, 63, 0, 1).end(), 8);
        nothingIsLeft(due, "no SCAN", right, FileMaker.framed(192).end(), 4);
        nothingIsLeft(due, "no INTERVAL", right, FileMaker.scanned().put(255, 208).end(), 4);
    }

    @Holds(under = PROMISE, words = "all is as ahead of any read().")
    static void nothingOfALargerFileIsLeftForASmallerOne(Due due) {
        FileMaker large = FileMaker.withTables();
        for (int table = 1; table < 4; table++) {
            large.quantisers(table, 99).words(table, 3).words(16 + table, 3);
        }
        large.segment(221, 1, 1).frame(192, 0, 0x22, 7, 8, 9, 10).scan(0, 63, 0, 7, 8).put(1, 255, 208, 2, 3)
            .segment(220, 0, 64).scan(0, 63, 0, 9, 10).put(4, 5, 255, 208, 255, 209).segment(254, 1, 2).end();
        due.right("the larger one", large);
        nothingIsLeft(due, "sequential", large, FileMaker.scanned().put(9).end(), 0);
        nothingIsLeft(due, "progressive", large, FileMaker.framed(194).scan(0, 0, 1, 1).end(), 0);
        nothingIsLeft(due, "broken", large, FileMaker.scanned().put(9), 1);
    }

    @Holds(under = PROMISE, words = "all is as ahead of any read().")
    static void nothingOfAFaultIsLeftForTheNextFile(Due due) {
        FileMaker right = FileMaker.scanned().put(1).end();
        FileMaker waiting = FileMaker.withTables().frame(192, 0, 0x11, 1).scan(0, 63, 0, 1).end();
        nothingIsLeft(due, "no wait for LINES", waiting, right, 0);
        nothingIsLeft(due, "no HEIGHT 0", waiting, FileMaker.scanned().segment(220, 0, 1), 4);
        FileMaker restarts = FileMaker.withTables().segment(221, 0, 1).frame(192, 16, 0x11, 1)
            .scan(0, 63, 0, 1).put(255, 208, 255, 209);
        nothingIsLeft(due, "RESTARTS from 208 on", restarts, FileMaker.withTables().segment(221, 0, 1)
            .frame(192, 16, 0x11, 1).scan(0, 63, 0, 1).put(255, 208).end(), 0);
        FileMaker bits = FileMaker.framed(194).scan(0, 0, 3, 1).scan(1, 63, 3, 1).put(1);
        nothingIsLeft(due, "no BITS", bits, FileMaker.framed(194).scan(0, 0, 0x32, 1).end(), 6);
        nothingIsLeft(due, "no SCAN with FIRST 0", bits, FileMaker.framed(194).scan(1, 63, 0, 1).end(), 7);
        FileMaker symbols = FileMaker.begun().segment(196, FileMaker.joined(FileMaker.counts(16, 0, 3), 1, 0));
        nothingIsLeft(due, "no symbols", symbols, right, 0);
    }
}
