/** Promise 10: the values of the tables of QUANTISERS. */
public final class Promise10QuantiserTest {
    private static final String PROMISE = "Promise 10: quantiser";

    public static void main(String[] args) {
        Sentences.run(Promise10QuantiserTest.class);
    }

    private static int[] values(int first) {
        int[] values = new int[64];
        for (int k = 0; k < 64; k++) {
            values[k] = first + k;
        }
        return values;
    }

    private static FileMaker framedAndScanned(FileMaker made) {
        return made.words(0, 1).words(16, 1).frame(192, 16, 0x11, 1).scan(0, 63, 0, 1);
    }

    @Holds(under = PROMISE, words = "Value k, in ZIGZAG order, of a table of QUANTISERS")
    static void eachOf64ValuesIsToldAsItCame(Due due) {
        FileMaker made = FileMaker.begun();
        for (int table = 0; table < 4; table++) {
            made.quantisers(table, 1 + 50 * table);
        }
        byte[] file = framedAndScanned(made).end().made();
        for (int table = 0; table < 4; table++) {
            SegmentReader x = due.right("read", FileMaker.of(file));
            int asked = table;
            due.row("quantiser(" + table + ", k)", k -> x.quantiser(asked, k), values(1 + 50 * table));
        }
    }

    @Holds(under = PROMISE, words = "Value k, in ZIGZAG order, of a table of QUANTISERS")
    static void theLeastAndGreatestValuesAreTold(Due due) {
        SegmentReader x = due.right("read", framedAndScanned(FileMaker.begun().quantisers(0, 192)
            .quantisers(1, 1)).end());
        due.is("quantiser(0, 0)", x.quantiser(0, 0), 192);
        due.is("quantiser(0, 63)", x.quantiser(0, 63), 255);
        due.is("quantiser(1, 0)", x.quantiser(1, 0), 1);
    }

    @Holds(under = PROMISE, words = "as it is at the end of the FILE")
    static void theLatestOfATableCounts(Due due) {
        int[] twice = FileMaker.joined(FileMaker.quantiserTable(0, 5), FileMaker.quantiserTable(0, 100));
        SegmentReader x = due.right("twice in one SEGMENT", framedAndScanned(FileMaker.begun()
            .segment(219, twice)).end());
        due.row("quantiser(0, k)", k -> x.quantiser(0, k), values(100));
        SegmentReader y = due.right("in two SEGMENTS", framedAndScanned(FileMaker.begun()
            .quantisers(0, 9).quantisers(0, 7)).end());
        due.row("quantiser(0, k)", k -> y.quantiser(0, k), values(7));
    }

    @Holds(under = PROMISE, words = "as it is at the end of the FILE")
    static void oneBehindTheLastScanCounts(Due due) {
        SegmentReader x = due.right("read", framedAndScanned(FileMaker.begun().quantisers(0, 9))
            .put(1).quantisers(0, 50).quantisers(2, 60).end());
        due.row("quantiser(0, k)", k -> x.quantiser(0, k), values(50));
        due.row("quantiser(2, k)", k -> x.quantiser(2, k), values(60));
    }

    @Holds(under = PROMISE, words = "as it is at the end of the FILE")
    static void oneBehindTheEndDoesNotCount(Due due) {
        SegmentReader x = due.right("read", framedAndScanned(FileMaker.begun().quantisers(0, 9)).end()
            .quantisers(0, 50).quantisers(2, 60).end());
        due.is("quantiser(0, 0)", x.quantiser(0, 0), 9);
        due.is("quantiser(2, 0)", x.quantiser(2, 0), -1);
    }

    @Holds(under = PROMISE, words = "NONE if there is none such.")
    static void thereIsNoValueBeside0To63(Due due) {
        SegmentReader x = due.right("read", FileMaker.scanned().end());
        due.is("quantiser(0, -1)", x.quantiser(0, -1), -1);
        due.is("quantiser(0, 0)", x.quantiser(0, 0), 1);
        due.is("quantiser(0, 63)", x.quantiser(0, 63), 64);
        due.is("quantiser(0, 64)", x.quantiser(0, 64), -1);
        due.is("quantiser(0, 65)", x.quantiser(0, 65), -1);
        due.far("quantiser(0, k)", k -> x.quantiser(0, k));
    }

    @Holds(under = PROMISE, words = "NONE if there is none such.")
    static void thereIsNoTableThatWasNotTold(Due due) {
        SegmentReader x = due.right("read", framedAndScanned(FileMaker.begun().quantisers(0, 3).quantisers(3, 8)).end());
        due.row("quantiser(table, 0)", table -> x.quantiser(table, 0), 3, -1, -1, 8);
        due.row("quantiser(table, 63)", table -> x.quantiser(table, 63), 66, -1, -1, 71);
        due.is("quantiser(16, 0)", x.quantiser(16, 0), -1);
    }

    @Holds(under = PROMISE, words = "NONE if there is none such.")
    static void thereIsNoneAheadOfReadAndBehindAFault(Due due) {
        SegmentReader x = FileMaker.scanned().given();
        due.none("quantiser(table, 0)", table -> x.quantiser(table, 0), 5);
        due.none("quantiser(0, k)", k -> x.quantiser(0, k), 65);
        due.is("read()", x.read(), 1);
        due.none("quantiser(table, 0)", table -> x.quantiser(table, 0), 5);
        due.none("quantiser(0, k)", k -> x.quantiser(0, k), 65);
    }
}
