/** Promises 5 to 11: what is told of a file that is right. */
public final class AnswersTest {
    private static final int[] FAR = {Integer.MIN_VALUE, Integer.MIN_VALUE + 16, -17, -16, -2, -1,
        100, 1 << 20, 858993460, Integer.MAX_VALUE};
    private static final Due due = new Due();

    public static void main(String[] args) {
        segments();
        frames();
        heightByLines();
        components();
        sequentialScans();
        progressiveScans();
        dataBytes();
        restarts();
        quantisers();
        words();
        manyWords();
        due.end();
    }

    private static SegmentReader read(FileMaker made) {
        SegmentReader x = made.given();
        due.is("read", x.read(), 0);
        return x;
    }

    private static void row(String what, SegmentReader x, int i, int... want) {
        for (int w = 0; w < want.length; w++) {
            due.is(what + "(" + i + ", " + w + ")", ask(what, x, i, w), want[w]);
        }
        due.is(what + "(" + i + ", " + want.length + ")", ask(what, x, i, want.length), -1);
    }

    private static int ask(String what, SegmentReader x, int i, int w) {
        switch (what) {
            case "segment": return x.segment(i, w);
            case "frame": return x.frame(w);
            case "component": return x.component(i, w);
            case "scan": return x.scan(i, w);
            default: throw new IllegalArgumentException(what);
        }
    }

    private static void far(String what, SegmentReader x) {
        for (int n : FAR) {
            due.is(what + " of w " + n, ask(what, x, 0, n), -1);
            if (!what.equals("frame")) {
                due.is(what + " of " + n, ask(what, x, n, 0), -1);
            }
        }
    }

    private static void segments() {
        FileMaker made = FileMaker.begun().segment(224).put(255, 255).segment(254, 7, 8, 9)
            .segment(239, new int[300]).segment(221, 1, 2);
        made.quantisers(0, 1).words(0, 1).words(16, 1).frame(192, 16, 17, 9).scan(0, 63, 0, 9)
            .put(1, 255, 0).put(255).segment(230, 1).end();
        SegmentReader x = read(made);
        due.is("segments", x.look(3), 10);
        row("segment", x, 0, 224, 2, 6, 0);
        row("segment", x, 1, 254, 6, 12, 3);
        row("segment", x, 2, 239, 15, 19, 300);
        row("segment", x, 3, 221, 319, 323, 2);
        row("segment", x, 4, 219, 325, 329, 65);
        row("segment", x, 5, 196, 394, 398, 18);
        row("segment", x, 6, 196, 416, 420, 18);
        row("segment", x, 7, 192, 438, 442, 9);
        row("segment", x, 8, 218, 451, 455, 6);
        row("segment", x, 9, 230, 464, 469, 1);
        due.is("segment(10, 0)", x.segment(10, 0), -1);
        due.is("end", x.look(6), 472);
        far("segment", x);
    }

    private static void frames() {
        SegmentReader x = read(FileMaker.withTables()
            .segment(192, 8, 0, 64, 0, 1, 2, 5, 0x12, 0, 6, 0x11, 0).scan(0, 63, 0, 5, 6).end());
        row("frame", x, 0, 192, 1, 64, 2, 1, 2);
        far("frame", x);
        x = read(FileMaker.withTables()
            .segment(194, 8, 0, 1, 0, 64, 3, 0, 0x11, 0, 255, 0x21, 0, 7, 0x12, 0)
            .scan(0, 0, 0, 0, 255, 7).end());
        row("frame", x, 0, 194, 64, 1, 3, 2, 2);
        x = read(FileMaker.withTables().frame(192, 16, 0x11, 1).scan(0, 63, 0, 1).end());
        row("frame", x, 0, 192, 24, 16, 1, 1, 1);
    }

    private static void heightByLines() {
        FileMaker made = FileMaker.withTables().frame(192, 0, 0x11, 1, 2).scan(0, 63, 0, 1).put(1)
            .segment(220, 0, 64).scan(0, 63, 0, 2).put(2).end();
        SegmentReader x = read(made);
        due.is("height", x.frame(2), 64);
        due.is("segments", x.look(3), 7);
        due.is("LINES", x.segment(5, 0), 220);
        x = read(FileMaker.withTables().frame(194, 0, 0x11, 1).scan(0, 0, 0, 1).put(255)
            .segment(220, 0, 1).end());
        due.is("height", x.frame(2), 1);
    }

    private static void components() {
        SegmentReader x = read(FileMaker.withTables().quantisers(1, 2).quantisers(2, 3).quantisers(3, 4)
            .segment(192, 8, 0, 9, 0, 8, 4, 200, 0x12, 3, 0, 0x21, 1, 255, 0x22, 0, 3, 0x11, 2)
            .scan(0, 63, 0, 200, 0, 255, 3).end());
        row("component", x, 0, 200, 1, 2, 3);
        row("component", x, 1, 0, 2, 1, 1);
        row("component", x, 2, 255, 2, 2, 0);
        row("component", x, 3, 3, 1, 1, 2);
        due.is("component(4, 0)", x.component(4, 0), -1);
        far("component", x);
    }

    private static void scanComponents(SegmentReader x, int i, int... want) {
        for (int k = 0; k < want.length / 3; k++) {
            for (int part = 0; part < 3; part++) {
                due.is("scan(" + i + ", part)", x.scan(i, 16 + 4 * k + part), want[3 * k + part]);
            }
            due.is("scan(" + i + ", + 3)", x.scan(i, 16 + 4 * k + 3), -1);
        }
        int behind = want.length / 3;
        for (int w = 16 + 4 * behind; w < 40; w++) {
            due.is("scan(" + i + ", " + w + ")", x.scan(i, w), -1);
        }
    }

    private static void sequentialScans() {
        FileMaker made = FileMaker.withTables().words(3, 1).words(17, 2).words(2, 1).words(19, 1)
            .segment(221, 1, 4).frame(192, 16, 0x22, 10, 11, 12, 13)
            .segment(218, 2, 11, 0x31, 12, 0x23, 0, 63, 0);
        int first = made.size();
        made.put(1, 2, 255, 0, 255, 208, 4).segment(221, 0, 0).scan(0, 63, 0, 10);
        int second = made.size();
        made.segment(221, 255, 255).segment(218, 1, 13, 0x30, 0, 63, 0);
        int third = made.size();
        SegmentReader x = read(made.put(9, 255, 208).end());
        due.is("scans", x.look(4), 3);
        row("scan", x, 0, 2, 0, 63, 0, 0, first, 7, 1, 260);
        scanComponents(x, 0, 1, 3, 1, 2, 2, 3);
        row("scan", x, 1, 1, 0, 63, 0, 0, second, 0, 0, 0);
        scanComponents(x, 1, 0, 0, 0);
        row("scan", x, 2, 1, 0, 63, 0, 0, third, 3, 1, 65535);
        scanComponents(x, 2, 3, 3, 0);
        for (int w = 9; w < 16; w++) {
            due.is("scan(0, " + w + ")", x.scan(0, w), -1);
        }
        due.is("scan(3, 0)", x.scan(3, 0), -1);
        due.is("interval at the end", x.look(5), 65535);
        far("scan", x);
    }

    private static void progressiveScans() {
        FileMaker made = FileMaker.withTables().frame(194, 16, 0x11, 1, 2, 3)
            .scan(0, 0, 0x0D, 1, 3).put(5).scan(0, 0, 0, 2).scan(0, 0, 0xDC, 1)
            .scan(0, 0, 0xDC, 3).scan(0, 0, 0xCB, 1, 3)
            .scan(1, 5, 2, 2).scan(6, 63, 3, 2).scan(6, 63, 0x32, 2).scan(1, 63, 0x21, 2);
        int last = made.size() + 10;
        SegmentReader x = read(made.scan(63, 63, 0x10, 2).put(3, 4).end());
        due.is("scans", x.look(4), 10);
        due.is("FIRST", x.scan(6, 1), 6);
        due.is("LAST", x.scan(6, 2), 63);
        due.is("BEFORE", x.scan(6, 3), 0);
        due.is("BITS", x.scan(6, 4), 3);
        row("scan", x, 9, 1, 63, 63, 1, 0, last, 2, 0, 0);
        due.is("BEFORE", x.scan(4, 3), 12);
        due.is("BITS", x.scan(4, 4), 11);
        scanComponents(x, 0, 0, 0, 0, 2, 0, 0);
    }

    private static void dataRow(SegmentReader x, int i, int... want) {
        for (int k = 0; k < want.length; k++) {
            due.is("data(" + i + ", " + k + ")", x.data(i, k), want[k]);
        }
        due.is("data(" + i + ", " + want.length + ")", x.data(i, want.length), -1);
    }

    private static void dataBytes() {
        FileMaker made = FileMaker.withTables().frame(192, 16, 0x11, 1, 2, 3)
            .scan(0, 63, 0, 1).put(255, 0, 255, 0, 0, 7, 0, 255, 0)
            .scan(0, 63, 0, 2).scan(0, 63, 0, 3).put(254, 1).put(255, 255).end();
        SegmentReader x = read(made);
        dataRow(x, 0, 255, 255, 0, 7, 0, 255);
        due.is("bytes", x.scan(0, 6), 9);
        dataRow(x, 1);
        dataRow(x, 2, 254, 1);
        due.is("bytes", x.scan(2, 6), 2);
        due.is("data(3, 0)", x.data(3, 0), -1);
        for (int n : FAR) {
            due.is("data", x.data(n, 0), -1);
            due.is("data", x.data(0, n), -1);
        }
    }

    private static void restarts() {
        FileMaker made = FileMaker.withTables().segment(221, 0, 1).frame(192, 16, 0x11, 1, 2)
            .scan(0, 63, 0, 1);
        for (int r = 0; r < 10; r++) {
            made.put(r).put(255, 208 + r % 8);
        }
        made.put(99).scan(0, 63, 0, 2).put(255, 208, 255, 209, 255, 0, 208).end();
        SegmentReader x = read(made);
        due.is("restarts", x.scan(0, 7), 10);
        due.is("bytes", x.scan(0, 6), 31);
        dataRow(x, 0, 0, 1, 2, 3, 4, 5, 6, 7, 8, 9, 99);
        due.is("they begin anew in each scan", x.scan(1, 7), 2);
        dataRow(x, 1, 255, 208);
    }

    private static void quantisers() {
        int[] both = FileMaker.joined(FileMaker.quantiserTable(3, 5), FileMaker.quantiserTable(0, 200));
        FileMaker made = FileMaker.begun().segment(219, both).quantisers(0, 100).quantisers(2, 1)
            .words(0, 1).words(16, 1).frame(192, 16, 0x11, 1).scan(0, 63, 0, 1)
            .put(255).segment(219, FileMaker.quantiserTable(2, 192)).end();
        SegmentReader x = read(made);
        for (int k = 0; k < 64; k++) {
            due.is("quantiser(3, " + k + ")", x.quantiser(3, k), 5 + k);
            due.is("quantiser(0, " + k + ")", x.quantiser(0, k), 100 + k);
            due.is("quantiser(2, " + k + ")", x.quantiser(2, k), 192 + k);
        }
        due.is("quantiser(1, 0)", x.quantiser(1, 0), -1);
        due.is("quantiser(3, 64)", x.quantiser(3, 64), -1);
        due.is("quantiser(4, 0)", x.quantiser(4, 0), -1);
        due.is("quantiser(16, 0)", x.quantiser(16, 0), -1);
        for (int n : FAR) {
            due.is("quantiser", x.quantiser(n, 0), -1);
            due.is("quantiser", x.quantiser(0, n), -1);
        }
    }

    private static void wordRow(SegmentReader x, int table, int[] counts, int... symbols) {
        for (int length = 1; length <= 16; length++) {
            int want = length <= counts.length ? counts[length - 1] : 0;
            due.is("word(" + table + ", 0, " + length + ")", x.word(table, 0, length), want);
        }
        due.is("COUNT of 0", x.word(table, 0, 0), -1);
        due.is("COUNT of 17", x.word(table, 0, 17), -1);
        for (int i = 0; i < symbols.length; i++) {
            due.is("word(" + table + ", 1, " + i + ")", x.word(table, 1, i), symbols[i]);
        }
        due.is("no symbol more", x.word(table, 1, symbols.length), -1);
    }

    private static void words() {
        int[] three = FileMaker.joined(FileMaker.counts(3, 1, 1, 1), 11, 0, 5);
        int[] nineteen = FileMaker.joined(FileMaker.counts(19, 0, 2, 0, 4), 255, 0, 1, 2, 3, 4);
        FileMaker made = FileMaker.begun().quantisers(0, 1)
            .segment(196, FileMaker.joined(FileMaker.joined(three, nineteen),
                FileMaker.joined(FileMaker.counts(16, 0, 1), 9)))
            .words(0, 3).words(16, 2).frame(192, 16, 0x11, 1).scan(0, 63, 0, 1).put(1).words(0, 1).end();
        SegmentReader x = read(made);
        wordRow(x, 3, new int[] {1, 1, 1}, 11, 0, 5);
        wordRow(x, 19, new int[] {0, 2, 0, 4}, 255, 0, 1, 2, 3, 4);
        wordRow(x, 16, new int[] {0, 2}, 0, 1);
        wordRow(x, 0, new int[] {0, 1}, 0);
        for (int table : new int[] {1, 2, 4, 15, 17, 18, 20}) {
            due.is("word(" + table + ", 0, 2)", x.word(table, 0, 2), -1);
            due.is("word(" + table + ", 1, 0)", x.word(table, 1, 0), -1);
        }
        due.is("what 2", x.word(0, 2, 1), -1);
        due.is("what -1", x.word(0, -1, 1), -1);
        for (int n : FAR) {
            due.is("word", x.word(n, 0, 1), -1);
            due.is("word", x.word(0, n, 1), -1);
            due.is("word", x.word(0, 0, n), -1);
            due.is("word", x.word(0, 1, n), -1);
        }
    }

    /** The greatest table: 256 words, and the greatest words of each length that may be. */
    private static void manyWords() {
        int[] counts = {0, 1, 0, 0, 0, 0, 0, 0, 255};
        int[] symbols = new int[256];
        for (int i = 0; i < 256; i++) {
            symbols[i] = 255 - i;
        }
        int[] narrow = {1, 1, 1, 1, 1, 1, 1, 1, 1, 1, 1, 1, 1, 1, 1, 1};
        int[] few = {0, 1, 2, 3, 4, 5, 6, 7, 8, 9, 10, 11, 12, 13, 14, 15};
        FileMaker made = FileMaker.withTables()
            .segment(196, FileMaker.joined(FileMaker.counts(17, counts), symbols))
            .segment(196, FileMaker.joined(FileMaker.counts(18, narrow), few))
            .segment(196, FileMaker.joined(FileMaker.counts(1, 0, 3), 0, 1, 2))
            .frame(192, 16, 0x11, 1).scan(0, 63, 0, 1).end();
        SegmentReader x = read(made);
        wordRow(x, 17, counts, symbols);
        wordRow(x, 18, narrow, few);
        wordRow(x, 1, new int[] {0, 3}, 0, 1, 2);
    }
}
