/** Promise 1: what a new object answers. */
public final class Promise01NewObjectTest {
    private static final String PROMISE = "Promise 1: A new object";

    public static void main(String[] args) {
        Sentences.run(Promise01NewObjectTest.class);
    }

    @Holds(under = PROMISE, words = "No INPUT")
    static void aNewObjectHasNoInput(Due due) {
        SegmentReader x = new SegmentReader();
        due.is("look(0)", x.look(0), 0);
        due.is("read()", x.read(), 1);
        due.is("look(2)", x.look(2), 0);
    }

    @Holds(under = PROMISE, words = "nothing read.")
    static void nothingIsReadInANewObject(Due due) {
        SegmentReader first = new SegmentReader();
        due.nothingRead("new", first, 0);
        due.row("look", first::look, 0, 0, -1, 0, 0, 0, -1);
        due.none("frame", first::frame, 7);
        for (int n = -1; n < 20; n++) {
            SegmentReader x = new SegmentReader();
            int w = n;
            due.row("segment", i -> x.segment(i, w));
            due.row("component", c -> x.component(c, w));
            due.row("scan", i -> x.scan(i, w));
        }
    }

    @Holds(under = PROMISE, words = "nothing read.")
    static void aNewObjectHasNoDataAndNoTables(Due due) {
        SegmentReader x = new SegmentReader();
        for (int table = -1; table < 21; table++) {
            due.is("data", x.data(table, 0), -1);
            due.is("quantiser", x.quantiser(table, 0), -1);
            due.is("quantiser", x.quantiser(table, 63), -1);
            due.is("COUNT", x.word(table, 0, 1), -1);
            due.is("COUNT", x.word(table, 0, 16), -1);
            due.is("symbol", x.word(table, 1, 0), -1);
        }
    }

    @Holds(under = PROMISE, words = "`SegmentReader()`: No INPUT; nothing read.")
    static void aNewObjectHasNothingOfAnother(Due due) {
        SegmentReader one = due.right("one", FileMaker.scanned().put(1).end());
        SegmentReader other = new SegmentReader();
        due.same("beside one that has read", other, new SegmentReader());
        due.is("read()", other.read(), 1);
        due.is("the one has its answers still", one.look(1), 0);
        due.is("and its FRAME", one.frame(0), 192);
    }
}
