/** Terms: the DATA of a SCAN and its RESTARTS. */
public final class TermsDataTest {
    private static final String TERMS = "Terms";

    public static void main(String[] args) {
        Sentences.run(TermsDataTest.class);
    }

    private static FileMaker withInterval() {
        return FileMaker.withTables().segment(221, 0, 1).frame(192, 16, 0x11, 1, 2).scan(0, 63, 0, 1);
    }

    /** The DATA end at that place behind their beginning. */
    private static SegmentReader ends(Due due, String what, FileMaker made, int bytes) {
        SegmentReader x = due.right(what, made);
        due.is(what + ": scan(0, 6)", x.scan(0, 6), bytes);
        return x;
    }

    @Holds(under = TERMS, words = "DATA: bytes up to a 255 that is followed by anything else (255, too) but these")
    static void dataEndAheadOfAMarker(Due due) {
        ends(due, "none", FileMaker.scanned().end(), 0);
        ends(due, "one", FileMaker.scanned().put(7).end(), 1);
        ends(due, "ahead of a SEGMENT", FileMaker.scanned().put(7, 8).segment(254, 1).end(), 2);
        ends(due, "all but 255", FileMaker.scanned().put(0, 1, 128, 208, 215, 216, 217, 218, 254).end(), 9);
    }

    @Holds(under = TERMS, words = "followed by anything else (255, too) but these")
    static void a255BehindA255EndsTheData(Due due) {
        ends(due, "two", FileMaker.scanned().put(7).put(255).end(), 1);
        ends(due, "five", FileMaker.scanned().put(7).repeat(255, 4).end(), 1);
        ends(due, "at once", FileMaker.scanned().put(255).end(), 0);
        FileMaker made = FileMaker.scanned().put(7);
        due.fault("255, 255, 0", made.copy().put(255, 255, 0).end(), 4, made.size() + 2);
    }

    @Holds(under = TERMS, words = "followed by anything else (255, too) but these")
    static void a255AtTheEndOfTheInputIsFollowedByNothing(Due due) {
        FileMaker made = FileMaker.scanned().put(7, 255);
        due.fault("one", made, 1, made.size());
        due.fault("two", made.copy().put(255), 1, made.size() + 1);
        due.fault("none", made.cut(made.size() - 1), 1, made.size() - 1);
    }

    @Holds(under = TERMS, words = "255, 0 is one byte of data, 255")
    static void a0BehindA255IsOneByteWithIt(Due due) {
        SegmentReader x = ends(due, "one", FileMaker.scanned().put(255, 0).end(), 2);
        due.row("data", k -> x.data(0, k), 255);
        SegmentReader y = ends(due, "several", FileMaker.scanned().put(1, 255, 0, 0, 255, 0, 255, 0).end(), 8);
        due.row("data", k -> y.data(0, k), 1, 255, 0, 255, 255);
        SegmentReader z = due.right("with an INTERVAL", withInterval().put(255, 0, 255, 208, 255, 0).scan(0, 63, 0, 2).end());
        due.row("data", k -> z.data(0, k), 255, 255);
    }

    @Holds(under = TERMS, words = "255 and 208 .. 215 (with just that one 255) is a RESTART")
    static void restartsAreWithinTheData(Due due) {
        SegmentReader x = due.right("read", withInterval().put(1, 255, 208, 2, 255, 209).scan(0, 63, 0, 2).end());
        due.is("RESTARTS", x.scan(0, 7), 2);
        due.is("bytes", x.scan(0, 6), 6);
        due.is("they are no SEGMENTS", x.look(3), 7);
    }

    @Holds(under = TERMS, words = "(with just that one 255) is a RESTART")
    static void aRestartHasJustOne255(Due due) {
        FileMaker made = withInterval().put(1);
        due.faultAtOnce("two", made.copy().put(255, 255, 208, 1).end(), 4, made.size() + 2);
        due.faultAtOnce("three", made.copy().put(255, 255, 255, 208).end(), 4, made.size() + 3);
    }

    @Holds(under = TERMS, words = "is a RESTART, if there is an INTERVAL")
    static void thereIsNoRestartWithoutAnInterval(Due due) {
        FileMaker none = FileMaker.scanned().put(1);
        for (int code = 208; code <= 215; code++) {
            due.faultAtOnce("RESTART " + code, none.copy().put(255, code).end(), 4, none.size() + 1);
        }
    }

    @Holds(under = TERMS, words = "is a RESTART, if there is an INTERVAL")
    static void theIntervalOfEachScanCounts(Due due) {
        FileMaker made = withInterval().put(255, 208).segment(221, 0, 0).scan(0, 63, 0, 2);
        due.faultAtOnce("0 for the second", made.copy().put(255, 208).end(), 4, made.size() + 1);
        FileMaker later = FileMaker.withTables().frame(192, 16, 0x11, 1, 2).scan(0, 63, 0, 1).put(1);
        due.fault("none for the first", later.copy().put(255, 208), 4, later.size() + 1);
        SegmentReader x = due.right("for the second alone", later.segment(221, 0, 1).scan(0, 63, 0, 2).put(255, 208).end());
        due.is("RESTARTS", x.scan(0, 7), 0);
        due.is("RESTARTS", x.scan(1, 7), 1);
    }

    @Holds(under = TERMS, words = "the first one 208, and so on, 208 again behind 215.")
    static void restartsCountFrom208To215AndAgain(Due due) {
        FileMaker made = withInterval();
        for (int r = 0; r < 20; r++) {
            int place = made.size() + 1;
            for (int code = 208; code <= 215; code++) {
                FileMaker next = made.copy().put(255, code).scan(0, 63, 0, 2).end();
                if (code == 208 + r % 8) {
                    SegmentReader x = due.right("RESTART " + r, next);
                    due.is("scan(0, 7)", x.scan(0, 7), r + 1);
                } else {
                    due.faultAtOnce("RESTART " + r + " by " + code, next, 4, place);
                }
            }
            made.put(255, 208 + r % 8).repeat(r, r % 3);
        }
    }

    @Holds(under = TERMS, words = "the first one 208, and so on, 208 again behind 215.")
    static void theFirstOneOfEachScanIs208(Due due) {
        FileMaker made = withInterval().put(255, 208, 255, 209, 1).scan(0, 63, 0, 2);
        due.faultAtOnce("210", made.copy().put(255, 210).end(), 4, made.size() + 1);
        SegmentReader x = due.right("208", made.copy().put(255, 208).end());
        due.is("RESTARTS", x.scan(1, 7), 1);
    }

    @Holds(under = TERMS, words = "the first one 208, and so on, 208 again behind 215.")
    static void theCodesBesideRestartsAreNone(Due due) {
        FileMaker made = withInterval().put(1);
        due.faultAtOnce("207", made.copy().put(255, 207).end(), 4, made.size() + 1);
        due.faultAtOnce("216", made.copy().put(255, 216).end(), 4, made.size() + 1);
        due.faultAtOnce("1", made.copy().put(255, 1).end(), 4, made.size() + 1);
        FileMaker all = made.copy();
        for (int code = 208; code <= 215; code++) {
            all.put(255, code);
        }
        due.faultAtOnce("216 behind 215", all.copy().put(255, 216).end(), 4, all.size() + 1);
    }

    @Holds(under = TERMS, words = "There the next MARKER begins.")
    static void theNextMarkerBeginsAtTheFirst255(Due due) {
        FileMaker made = FileMaker.scanned().put(7, 255, 0);
        SegmentReader x = due.right("read", made.copy().put(255, 255).segment(254, 3).end());
        due.is("its place", x.segment(5, 1), made.size());
        due.is("its CONTENTS", x.segment(5, 2), made.size() + 6);
        due.is("the DATA's bytes", x.scan(0, 6), 3);
    }

    @Holds(under = TERMS, words = "255 and 208 .. 215 (with just that one 255) is a RESTART")
    static void aRestartElsewhereCanNotBe(Due due) {
        due.faultAtOnce("at the beginning", FileMaker.begun().segment(221, 0, 1).put(255, 208), 4, 9);
        FileMaker made = withInterval().put(1).segment(254);
        due.faultAtOnce("behind a SEGMENT", made.copy().put(255, 208).end(), 4, made.size() + 1);
    }
}
