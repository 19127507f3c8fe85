import java.util.Random;

/** Files that are right, and those files broken here and there, against the Oracle. */
public final class OracleTest {
    private static final int CALLS = 512;
    private static final int DRAWN = 60000;
    private static final String READ = "The INPUT is read: 0 if it is a FILE, else the fault";

    private static Due due;
    private static byte[] bytes;
    private static SegmentReader reader;
    private static int calls;

    public static void main(String[] args) {
        Sentences.run(OracleTest.class);
    }

    private static byte[][] whole() {
        return new byte[][] {sequential(), progressive(), lines(), tables()};
    }

    @Holds(under = "Promise 4: read", words = READ)
    static void filesThatAreRightAreToldAsByTheOracle(Due counter) {
        due = counter;
        for (byte[] file : whole()) {
            due.is("right", compare(file, 1), 0);
        }
    }

    @Holds(under = "Promise 4: read", words = READ)
    static void filesWithOneByteBrokenAreToldAsByTheOracle(Due counter) {
        due = counter;
        for (byte[] file : whole()) {
            eachByteBroken(file);
        }
    }

    @Holds(under = "Promise 4: read", words = READ)
    static void filesBrokenAtDrawnPlacesAreToldAsByTheOracle(Due counter) {
        due = counter;
        Random random = new Random(20261115L);
        byte[][] whole = whole();
        for (int turn = 0; turn < DRAWN; turn++) {
            byte[] file = whole[random.nextInt(whole.length)].clone();
            int changes = 1 + random.nextInt(3);
            for (int i = 0; i < changes; i++) {
                file = broken(file, random);
            }
            compare(file, 97);
        }
    }

    @Holds(under = "Promise 4: read", words = READ)
    static void drawnFilesAreToldAsByTheOracle(Due counter) {
        due = counter;
        int[] found = new int[9];
        Files files = new Files(new Random(20261116L));
        for (int turn = 0; turn < DRAWN; turn++) {
            found[compare(files.draw(), 13)]++;
        }
        for (int number : new int[] {0, 4, 6, 7, 8}) {
            due.is("many files of fault " + number, found[number] > 100, true);
        }
    }

    /** A new object with the file read, so that no object is asked more often than the document allows. */
    private static void anew() {
        reader = FileMaker.of(bytes).given();
        calls = (bytes.length + 7) / 8 + 2;
        due.is("read", reader.read(), reader.look(1));
    }

    private static SegmentReader asked() {
        if (calls >= CALLS) {
            anew();
        }
        calls++;
        return reader;
    }

    private static int compare(byte[] file, int step) {
        int before = due.wrong();
        int fault = compareAll(file, step);
        if (due.wrong() != before) {
            System.out.println("of the file " + hex());
        }
        return fault;
    }

    private static int compareAll(byte[] file, int step) {
        bytes = file;
        Oracle oracle = new Oracle(file);
        anew();
        for (int which = -1; which < 8; which++) {
            due.is("look", asked().look(which), oracle.look(which));
        }
        for (int i = 0; i <= oracle.segments.size(); i++) {
            for (int w = -1; w < 5; w++) {
                due.is("segment", asked().segment(i, w), oracle.segment(i, w));
            }
        }
        for (int w = -1; w < 7; w++) {
            due.is("frame", asked().frame(w), oracle.frame(w, 0));
        }
        for (int c = -1; c <= oracle.components.size(); c++) {
            for (int w = -1; w < 5; w++) {
                due.is("component", asked().component(c, w), oracle.component(c, w));
            }
        }
        for (int i = -1; i <= oracle.scans.size(); i++) {
            for (int w = -1; w < 36; w++) {
                due.is("scan", asked().scan(i, w), oracle.scan(i, w));
            }
            for (int k = -1; k < 40; k++) {
                due.is("data", asked().data(i, k), oracle.data(i, k));
            }
        }
        if (oracle.fault == 0) {
            compareTables(oracle, step);
        }
        return oracle.fault;
    }

    private static void compareTables(Oracle oracle, int step) {
        for (int n = 0; n < 5 * 65; n += step) {
            due.is("quantiser", asked().quantiser(n / 65, n % 65), oracle.quantiser(n / 65, n % 65));
        }
        for (int n = 0; n < 21 * 18; n += step) {
            due.is("word", asked().word(n / 18, 0, n % 18), oracle.word(n / 18, 0, n % 18));
        }
        for (int n = 0; n < 21 * 258; n += step) {
            due.is("word", asked().word(n / 258, 1, n % 258), oracle.word(n / 258, 1, n % 258));
        }
    }

    private static String hex() {
        StringBuilder text = new StringBuilder();
        for (byte value : bytes) {
            text.append(String.format("%02X", value));
        }
        return text.toString();
    }

    private static void eachByteBroken(byte[] whole) {
        int[] values = {0, 1, 2, 3, 4, 16, 32, 63, 64, 127, 196, 208, 209, 217, 218, 220, 254, 255};
        for (int place = 0; place < whole.length; place++) {
            for (int value : values) {
                byte[] file = whole.clone();
                file[place] = (byte) value;
                compare(file, 997);
            }
            byte[] file = whole.clone();
            file[place]++;
            compare(file, 997);
            file[place] -= 2;
            compare(file, 997);
        }
    }

    private static byte[] broken(byte[] file, Random random) {
        int place = random.nextInt(file.length);
        switch (random.nextInt(4)) {
            case 0: {
                byte[] longer = new byte[file.length + 1];
                System.arraycopy(file, 0, longer, 0, place);
                longer[place] = (byte) (random.nextBoolean() ? 255 : random.nextInt(256));
                System.arraycopy(file, place, longer, place + 1, file.length - place);
                return longer;
            }
            case 1: {
                byte[] shorter = new byte[Math.max(1, file.length - 1)];
                System.arraycopy(file, 0, shorter, 0, Math.min(place, shorter.length));
                if (place < shorter.length) {
                    System.arraycopy(file, place + 1, shorter, place, shorter.length - place);
                }
                return shorter;
            }
            case 2:
                file[place] ^= (byte) (1 << random.nextInt(8));
                return file;
            default:
                file[place] = (byte) random.nextInt(random.nextBoolean() ? 256 : 5);
                return file;
        }
    }

    private static byte[] sequential() {
        return FileMaker.withTables().segment(224, 1, 2, 3).words(1, 3).words(17, 3).quantisers(1, 9)
            .segment(192, 8, 0, 16, 0, 64, 3, 1, 0x22, 0, 2, 0x11, 1, 3, 0x11, 1)
            .segment(218, 2, 1, 0, 3, 0x11, 0, 63, 0).put(1, 2, 255, 0, 3)
            .segment(221, 0, 4).put(255).segment(218, 1, 2, 0x11, 0, 63, 0)
            .put(7, 255, 208, 8, 255, 209, 9).segment(254, 4).end().put(1, 2).made();
    }

    private static byte[] progressive() {
        return FileMaker.withTables().segment(221, 0, 9).frame(194, 16, 0x21, 4, 5)
            .scan(0, 0, 1, 4, 5).put(1, 255, 208, 2).scan(1, 5, 2, 4).put(3).scan(6, 63, 2, 4)
            .scan(1, 63, 0x21, 4).put(255, 0).scan(0, 0, 0x10, 4, 5).put(5).scan(1, 63, 0x10, 4)
            .scan(1, 63, 0, 5).put(6).end().made();
    }

    private static byte[] lines() {
        return FileMaker.withTables().frame(192, 0, 0x12, 1, 2).scan(0, 63, 0, 2).put(4, 5)
            .segment(220, 0, 33).segment(230, 1).scan(0, 63, 0, 1).put(6).end().made();
    }

    private static byte[] tables() {
        int[] dc = FileMaker.joined(FileMaker.counts(0, 0, 1, 5, 1, 1, 1, 1, 1, 1), 0, 1, 2, 3, 4, 5, 6, 7, 8, 9, 10, 11);
        int[] ac = FileMaker.joined(FileMaker.counts(19, 0, 2, 1, 3), 1, 2, 3, 0, 4, 17);
        return FileMaker.begun().segment(196, FileMaker.joined(dc, ac))
            .segment(219, FileMaker.joined(FileMaker.quantiserTable(2, 1), FileMaker.quantiserTable(2, 77)))
            .segment(194, 8, 0, 1, 0, 1, 1, 0, 0x11, 2).segment(218, 1, 0, 3, 0, 0, 0).put(1)
            .segment(218, 1, 0, 3, 1, 63, 13).end().made();
    }

    /** Files drawn SEGMENT by SEGMENT, each one that is likely to be right where it stands. */
    private static final class Files {
        private final Random random;

        Files(Random random) {
            this.random = random;
        }

        byte[] draw() {
            FileMaker made = FileMaker.begun();
            boolean progressive = random.nextInt(4) > 0;
            boolean lines = random.nextInt(6) == 0;
            int components = 1 + random.nextInt(3);
            for (int table = 0; table < 2; table++) {
                if (random.nextInt(20) > 0) {
                    made.quantisers(table, 1 + random.nextInt(255));
                }
                if (random.nextInt(20) > 0) {
                    made.words(table, 1 + random.nextInt(3));
                }
                if (random.nextInt(20) > 0) {
                    made.words(16 + table, 1 + random.nextInt(3));
                }
            }
            if (random.nextInt(3) > 0) {
                made.segment(221, 0, random.nextInt(3));
            }
            frame(made, progressive, lines, components);
            int scans = random.nextInt(12);
            for (int i = 0; i < scans; i++) {
                scan(made, progressive, components, i);
                if (lines && i == 0) {
                    made.segment(220, 0, random.nextInt(66));
                }
                if (random.nextInt(8) == 0) {
                    made.segment(random.nextInt(20) == 0 ? 220 : 221, 0, random.nextInt(3));
                }
            }
            return made.end().made();
        }

        private void frame(FileMaker made, boolean progressive, boolean lines, int components) {
            int[] contents = new int[6 + 3 * components];
            contents[0] = 8;
            contents[2] = lines ? 0 : 1 + random.nextInt(64);
            contents[4] = 1 + random.nextInt(64);
            contents[5] = components;
            for (int c = 0; c < components; c++) {
                contents[6 + 3 * c] = 10 * (components - c);
                contents[7 + 3 * c] = 0x11 + random.nextInt(2) + 16 * random.nextInt(2);
                contents[8 + 3 * c] = random.nextInt(2);
            }
            made.segment(progressive ? 194 : 192, contents);
        }

        private void scan(FileMaker made, boolean progressive, int components, int turn) {
            boolean dc = !progressive || turn == 0 || random.nextInt(3) == 0;
            int count = dc && turn == 0 && random.nextInt(4) > 0 ? components
                : dc ? 1 + random.nextInt(components) : 1;
            int from = random.nextInt(components - count + 1);
            int[] contents = new int[4 + 2 * count];
            contents[0] = count;
            for (int k = 0; k < count; k++) {
                contents[1 + 2 * k] = 10 * (components - from - k);
                contents[2 + 2 * k] = 16 * random.nextInt(2) + random.nextInt(2);
            }
            int first = dc ? 0 : 1 + random.nextInt(4);
            int bits = random.nextInt(3);
            contents[1 + 2 * count] = first;
            contents[2 + 2 * count] = !progressive ? 63 : dc ? 0 : first + random.nextInt(4);
            boolean later = turn > 0 && random.nextInt(2) == 0;
            contents[3 + 2 * count] = progressive ? (later ? 16 * (bits + 1) : 0) + bits : 0;
            made.segment(218, contents);
            int data = random.nextInt(6);
            int restarts = 0;
            for (int i = 0; i < data; i++) {
                if (random.nextInt(8) == 0) {
                    made.put(255, 208 + restarts++);
                } else {
                    made.put(random.nextInt(255));
                }
                if (random.nextInt(5) == 0) {
                    made.put(255, 0);
                }
            }
        }
    }
}
