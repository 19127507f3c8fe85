import java.util.Random;

/** What a call that is refused, or that only asks, leaves as it was. */
public final class NothingChangesTest {
    private static final String TERMS = "Terms";
    private static final int[] WRONG = {Integer.MIN_VALUE, -8, -1, 0, 9, 10, 64, Integer.MAX_VALUE};

    public static void main(String[] args) {
        Sentences.run(NothingChangesTest.class);
    }

    private static void refused(Due due, SegmentReader x) {
        for (int n : WRONG) {
            due.is("give(-1, " + n + ")", x.give(-1L, n), false);
        }
    }

    private static FileMaker file() {
        return FileMaker.withTables().segment(221, 0, 3).frame(194, 16, 0x21, 1, 2).scan(0, 0, 1, 1, 2)
            .put(1, 255, 208, 2, 255, 0).scan(1, 63, 2, 2).put(5).end();
    }

    @Holds(under = TERMS, words = "What throws, or answers false, changes nothing.")
    static void aRefusedGiveLeavesWhatWasRead(Due due) {
        SegmentReader x = due.right("read", file());
        refused(due, x);
        due.same("behind a file", x, due.right("another", file()));
        due.is("it is read again", x.read(), 0);
    }

    @Holds(under = TERMS, words = "What throws, or answers false, changes nothing.")
    static void aRefusedGiveLeavesTheFault(Due due) {
        FileMaker made = file().cut(file().size() - 1);
        SegmentReader x = made.given();
        due.is("read()", x.read(), 1);
        refused(due, x);
        due.is("look(1)", x.look(1), 1);
        due.is("look(2)", x.look(2), made.size());
        due.is("look(0)", x.look(0), made.size());
        due.is("the next byte comes where it should", x.give(217L, 1), true);
        due.is("read()", x.read(), 0);
    }

    @Holds(under = TERMS, words = "What throws, or answers false, changes nothing.")
    static void aRefusedGiveLeavesTheInputAheadOfRead(Due due) {
        SegmentReader x = new SegmentReader();
        refused(due, x);
        due.same("a new object", x, new SegmentReader());
        file().giveTo(x);
        refused(due, x);
        due.same("given", x, file().given());
        due.is("read()", x.read(), 0);
    }

    /** 512 calls can't fill the INPUT; see whatHasNoRoomIsRefusedWhole of promise 2. */
    @Holds(under = TERMS, words = "What throws, or answers false, changes nothing.")
    static void aGiveWithoutRoomLeavesWhatWasRead(Due due) {
        FileMaker made = file();
        int end = made.size();
        made.repeat(7, 16380 - end);
        SegmentReader x = due.right("read", made);
        for (int n = 5; n <= 8; n++) {
            due.is("give(-1, " + n + ")", x.give(-1L, n), false);
        }
        due.is("look(0)", x.look(0), 16380);
        due.is("look(6)", x.look(6), end);
        due.is("look(4)", x.look(4), 2);
        due.is("frame(0)", x.frame(0), 194);
        due.is("give(-1, 4)", x.give(-1L, 4), true);
        due.is("look(6)", x.look(6), -1);
    }

    @Holds(under = TERMS, words = "What throws, or answers false, changes nothing.")
    static void askingChangesNothing(Due due) {
        SegmentReader x = due.right("read", file());
        int[] before = State.of(x);
        int[] behind = State.of(x);
        for (int i = 0; i < before.length; i++) {
            due.is(State.call(i), behind[i], before[i]);
        }
    }

    private static int number(Random random) {
        switch (random.nextInt(4)) {
            case 0: return Due.FAR[random.nextInt(Due.FAR.length)];
            case 1: return random.nextInt();
            default: return random.nextInt(70) - 2;
        }
    }

    private static void ask(SegmentReader x, Random random) {
        switch (random.nextInt(8)) {
            case 0: x.segment(number(random), number(random)); break;
            case 1: x.frame(number(random)); break;
            case 2: x.component(number(random), number(random)); break;
            case 3: x.scan(number(random), number(random)); break;
            case 4: x.data(number(random), number(random)); break;
            case 5: x.quantiser(number(random), number(random)); break;
            case 6: x.word(number(random), number(random), number(random)); break;
            default: x.look(number(random));
        }
    }

    /** The document names no exception: a throw of any call fails this test. */
    @Holds(under = TERMS, words = "What throws, or answers false, changes nothing.")
    static void noCallThrowsWhateverItIsAsked(Due due) {
        Random random = new Random(20261116L);
        byte[] whole = file().made();
        for (int turn = 0; turn < 2000; turn++) {
            byte[] bytes = whole.clone();
            for (int i = turn % 4; i > 0; i--) {
                bytes[random.nextInt(bytes.length)] = (byte) random.nextInt(256);
            }
            SegmentReader x = FileMaker.of(bytes).given();
            int fault = turn % 3 == 0 ? 0 : x.read();
            for (int i = 0; i < 300; i++) {
                ask(x, random);
            }
            due.is("the fault is as it was", x.look(1), fault);
            x.give(random.nextLong(), number(random));
            x.read();
            x.wipe();
            due.is("look(0)", x.look(0), 0);
        }
    }
}
