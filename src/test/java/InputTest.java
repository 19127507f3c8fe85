/** Promises 1 to 4 and 12: the INPUT, what a read() leaves and what makes it be forgotten. */
public final class InputTest {
    private static final int[] FAR = {Integer.MIN_VALUE, -2, -1, 99, 16384, Integer.MAX_VALUE};
    private static final Due due = new Due();

    public static void main(String[] args) {
        newObject();
        bytesOfNumbers();
        wrongGives();
        roomEnds();
        givingForgets();
        wipingForgets();
        faultForgets();
        readingAgain();
        looks();
        due.end();
    }

    private static FileMaker small() {
        return FileMaker.withTables().segment(221, 0, 3).frame(192, 16, 17, 9)
            .scan(0, 63, 0, 9).put(1, 2, 3).end();
    }

    /** All that a read() could have left, and what was given to it stays. */
    private static void nothingRead(String when, SegmentReader x, int size) {
        due.is(when + ": look(0)", x.look(0), size);
        due.is(when + ": look(3)", x.look(3), 0);
        due.is(when + ": look(4)", x.look(4), 0);
        due.is(when + ": look(5)", x.look(5), 0);
        due.is(when + ": look(6)", x.look(6), -1);
        for (int w = 0; w <= 5; w++) {
            due.is(when + ": frame", x.frame(w), -1);
            due.is(when + ": segment", x.segment(0, w), -1);
            due.is(when + ": component", x.component(0, w), -1);
            due.is(when + ": scan", x.scan(0, w), -1);
        }
        due.is(when + ": scan's component", x.scan(0, 16), -1);
        due.is(when + ": data", x.data(0, 0), -1);
        due.is(when + ": quantiser", x.quantiser(0, 0), -1);
        due.is(when + ": word", x.word(0, 0, 2), -1);
        due.is(when + ": word", x.word(16, 1, 0), -1);
    }

    private static void noFault(String when, SegmentReader x) {
        due.is(when + ": look(1)", x.look(1), 0);
        due.is(when + ": look(2)", x.look(2), -1);
    }

    private static void newObject() {
        SegmentReader x = new SegmentReader();
        nothingRead("new", x, 0);
        noFault("new", x);
        due.is("read() of nothing", x.read(), 1);
        due.is("its place", x.look(2), 0);
        nothingRead("read of nothing", x, 0);
    }

    private static void bytesOfNumbers() {
        SegmentReader x = new SegmentReader();
        due.is("give 8", x.give(0xFFD8FFE000040102L, 8), true);
        due.is("give 7 of 8", x.give(0x99FFFFFE00050AFFL, 7), true);
        due.is("give 3", x.give(0x0CFFDBL, 3), true);
        due.is("give 2", x.give(0x0043L, 2), true);
        due.is("give 1 of more", x.give(-254L, 1), true);
        due.is("look(0)", x.look(0), 21);
        for (int i = 0; i < 16; i++) {
            due.is("give 4", x.give(0x0102037FL + i, 4), true);
        }
        due.is("a frame", x.give(0xFFC0000BL, 4), true);
        due.is("a frame", x.give(0x0800100008011122L, 8), true);
        due.is("read", x.read(), 1);
        due.is("place", x.look(2), 97);
        due.is("a table that can't be", x.give(0x7704L, 1), true);
        due.is("read", x.read(), 6);
        due.is("place", x.look(2), 97);
    }

    private static void wrongGives() {
        SegmentReader x = small().given();
        int size = x.look(0);
        due.is("read", x.read(), 0);
        for (int n : new int[] {Integer.MIN_VALUE, -8, -1, 0, 9, 10, 16, 64, Integer.MAX_VALUE}) {
            due.is("give(1, " + n + ")", x.give(1L, n), false);
        }
        due.is("size", x.look(0), size);
        due.is("end", x.look(6), size);
        due.is("frame", x.frame(0), 192);
        SegmentReader y = new SegmentReader();
        y.give(7L, 1);
        y.read();
        due.is("give(1, 9)", y.give(1L, 9), false);
        due.is("the fault stays", y.look(1), 2);
        due.is("its place stays", y.look(2), 0);
    }

    /** The 512 calls of an object do not reach the end of the room: this says how it is held all the same. */
    private static void roomEnds() {
        SegmentReader x = new SegmentReader();
        for (int i = 0; i < 2047; i++) {
            due.is("give", x.give(0xFFD8FFE000020000L, 8), true);
        }
        due.is("give 7", x.give(5L, 7), true);
        due.is("read", x.read(), 3);
        due.is("no room for 2", x.give(5L, 2), false);
        due.is("the fault stays", x.look(1), 3);
        due.is("size", x.look(0), 16383);
        due.is("room for 1", x.give(5L, 1), true);
        due.is("all is forgotten", x.look(1), 0);
        due.is("no room for 1", x.give(5L, 1), false);
        due.is("size", x.look(0), 16384);
        x.wipe();
        due.is("room again", x.give(5L, 8), true);
        due.is("size", x.look(0), 8);
    }

    private static void givingForgets() {
        SegmentReader x = small().given();
        int size = x.look(0);
        nothingRead("given", x, size);
        due.is("read", x.read(), 0);
        due.is("give", x.give(0L, 1), true);
        nothingRead("given behind", x, size + 1);
        noFault("given behind", x);
        SegmentReader y = new SegmentReader();
        y.read();
        y.give(255L, 1);
        nothingRead("given behind a fault", y, 1);
        noFault("given behind a fault", y);
    }

    private static void wipingForgets() {
        SegmentReader x = small().given();
        x.read();
        x.wipe();
        nothingRead("wiped", x, 0);
        noFault("wiped", x);
        due.is("read", x.read(), 1);
        x.wipe();
        noFault("wiped behind a fault", x);
        FileMaker.withTables().frame(194, 16, 17, 9).end().giveTo(x);
        due.is("what was read ahead of wipe does not count", x.read(), 4);
        x.wipe();
        FileMaker.begun().frame(192, 16, 17, 9).scan(0, 63, 0, 9).put(1).end().giveTo(x);
        due.is("nor do its tables", x.read(), 8);
        x.wipe();
        FileMaker.withTables().frame(192, 0, 17, 9).scan(0, 63, 0, 9).end().giveTo(x);
        due.is("LINES must be there", x.read(), 4);
        x.wipe();
        small().giveTo(x);
        due.is("nor does a wait for LINES", x.read(), 0);
    }

    private static void faultForgets() {
        FileMaker broken = FileMaker.withTables().segment(221, 0, 3).frame(192, 16, 17, 9)
            .scan(0, 63, 0, 9).put(1, 2, 3);
        SegmentReader x = broken.given();
        due.is("read", x.read(), 1);
        nothingRead("fault", x, broken.size());
        due.is("fault", x.look(1), 1);
        due.is("place", x.look(2), broken.size());
        x.give(255 * 256L + 217, 2);
        due.is("mended", x.read(), 0);
        due.is("scan", x.scan(0, 6), 3);
    }

    private static void readingAgain() {
        SegmentReader x = small().given();
        for (int turn = 0; turn < 3; turn++) {
            due.is("read", x.read(), 0);
            due.is("segments", x.look(3), 6);
            due.is("scans", x.look(4), 1);
            due.is("components", x.frame(3), 1);
        }
    }

    private static void looks() {
        FileMaker made = small();
        int end = made.size();
        SegmentReader x = made.put(255, 192, 7).given();
        due.is("read", x.read(), 0);
        noFault("right", x);
        due.is("look(0)", x.look(0), end + 3);
        due.is("look(3)", x.look(3), 6);
        due.is("look(4)", x.look(4), 1);
        due.is("look(5)", x.look(5), 3);
        due.is("look(6)", x.look(6), end);
        due.is("look(7)", x.look(7), -1);
        for (int which : FAR) {
            due.is("look(" + which + ")", x.look(which), -1);
        }
    }
}
