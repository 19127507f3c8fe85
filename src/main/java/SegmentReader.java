import java.util.Arrays;

/**
 * Reads a file of a picture as markers and segments, from its first byte to its end, and refuses
 * one that is not right by the number and the place of its first fault.
 */
public final class SegmentReader {
    public static final int NONE = -1;

    private static final int ROOM = 16384;

    private static final int INPUT_ENDS = 1;
    private static final int NO_BEGINNING = 2;
    private static final int NO_MARKER = 3;
    private static final int WRONG_MARKER = 4;
    private static final int WRONG_LENGTH = 5;
    private static final int WRONG_BYTE = 6;
    private static final int WRONG_COMPONENT = 7;
    private static final int NO_TABLE = 8;

    private static final int SEQUENTIAL = 192;
    private static final int PROGRESSIVE = 194;
    private static final int WORDS = 196;
    private static final int FIRST_RESTART = 208;
    private static final int BEGINNING = 216;
    private static final int END = 217;
    private static final int SCAN = 218;
    private static final int QUANTISERS = 219;
    private static final int LINES = 220;
    private static final int INTERVAL = 221;
    private static final int FIRST_FREE = 224;
    private static final int LAST_FREE = 239;
    private static final int REMARK = 254;

    private static final int COMPONENTS = 4;
    private static final int COEFFICIENTS = 64;
    private static final int LENGTHS = 16;

    private final Bytes input;
    private final Picture picture;
    private final Parser parser;

    public SegmentReader() {
        input = new Bytes();
        picture = new Picture(input);
        parser = new Parser(input, picture);
    }

    public boolean give(long v, int n) {
        if (n < 1 || n > 8 || n > ROOM - input.size) {
            return false;
        }
        for (int i = n - 1; i >= 0; i--) {
            input.add((int) (v >>> (8 * i)));
        }
        parser.forget();
        return true;
    }

    public void wipe() {
        input.size = 0;
        parser.forget();
    }

    public int read() {
        parser.begin();
        // Each turn but the last takes a SEGMENT of four bytes or more.
        for (int turn = 0; turn < ROOM && parser.goesOn(); turn++) {
            parser.readNext();
        }
        return parser.finish();
    }

    public int segment(int i, int w) {
        return picture.ofSegment(i, w);
    }

    public int frame(int w) {
        return picture.ofFrame(w);
    }

    public int component(int c, int w) {
        return picture.ofComponent(c, w);
    }

    public int scan(int i, int w) {
        return picture.ofScan(i, w);
    }

    public int data(int i, int k) {
        return picture.dataByte(i, k);
    }

    public int quantiser(int table, int k) {
        return picture.quantiserValue(table, k);
    }

    public int word(int table, int what, int i) {
        return picture.ofWords(table, what, i);
    }

    public int look(int which) {
        switch (which) {
            case 0: return input.size;
            case 1: return parser.fault;
            case 2: return parser.faultPlace;
            case 3: return picture.segmentCount();
            case 4: return picture.scanCount();
            case 5: return picture.interval;
            case 6: return picture.end;
            default: return NONE;
        }
    }

    /** The INPUT. Its row grows with need: 16384 bytes for each of many objects would be too dear. */
    private static final class Bytes {
        private byte[] held = new byte[64];
        private int size = 0;

        void add(int value) {
            if (size >= ROOM) {
                return;
            }
            if (size >= held.length) {
                held = Arrays.copyOf(held, 2 * size);
            }
            held[size] = (byte) value;
            size++;
        }

        int at(int place) {
            return place >= 0 && place < size ? held[place] & 255 : NONE;
        }
    }

    /** A row of numbers that is used again from read() to read(); the INPUT's room bounds it. */
    private static final class Numbers {
        private int[] held = new int[16];
        private int size = 0;

        void add(int value) {
            if (size >= held.length) {
                held = Arrays.copyOf(held, 2 * size);
            }
            held[size] = value;
            size++;
        }

        int at(int index) {
            return index >= 0 && index < size ? held[index] : NONE;
        }
    }

    /**
     * What has been read. It keeps places in the INPUT instead of copies of what stands there:
     * the INPUT can't change without all of this being forgotten.
     */
    private static final class Picture {
        private static final int SEGMENT_ROW = 2;
        private static final int SCAN_ROW = 5;
        private static final int COMPONENT_ROW = 4;

        private final Bytes input;
        /** For each SEGMENT the place of its first 255 and that of its CONTENTS. */
        private final Numbers segments = new Numbers();
        /** For each SCAN the places of its CONTENTS and DATA, the DATA's length, RESTARTS, INTERVAL. */
        private final Numbers scans = new Numbers();
        /** For each component its name, H, V and table of QUANTISERS. */
        private final int[] components = new int[COMPONENTS * COMPONENT_ROW];
        /** Where each table's first value stands, or NONE. */
        private final int[] quantisersAt = new int[4];
        /** Where each table's first COUNT stands, or NONE; the AC tables behind the DC tables. */
        private final int[] wordsAt = new int[8];
        private int frameCode;
        private int width;
        private int height;
        private int componentCount;
        private int interval;
        private int end;

        Picture(Bytes input) {
            this.input = input;
            clear();
        }

        void clear() {
            segments.size = 0;
            scans.size = 0;
            Arrays.fill(quantisersAt, NONE);
            Arrays.fill(wordsAt, NONE);
            frameCode = NONE;
            width = 0;
            height = 0;
            componentCount = 0;
            interval = 0;
            end = NONE;
        }

        int segmentCount() {
            return segments.size / SEGMENT_ROW;
        }

        int scanCount() {
            return scans.size / SCAN_ROW;
        }

        void addSegment(int place, int contents) {
            segments.add(place);
            segments.add(contents);
        }

        void addScan(int contents, int data, int dataLength, int restarts) {
            scans.add(contents);
            scans.add(data);
            scans.add(dataLength);
            scans.add(restarts);
            scans.add(interval);
        }

        void addComponent(int name, int h, int v, int table) {
            if (componentCount >= COMPONENTS) {
                return;
            }
            int row = componentCount * COMPONENT_ROW;
            components[row] = name;
            components[row + 1] = h;
            components[row + 2] = v;
            components[row + 3] = table;
            componentCount++;
        }

        int ofSegment(int i, int w) {
            if (i < 0 || i >= segmentCount()) {
                return NONE;
            }
            int contents = segments.at(i * SEGMENT_ROW + 1);
            switch (w) {
                case 0: return input.at(contents - 3);
                case 1: return segments.at(i * SEGMENT_ROW);
                case 2: return contents;
                case 3: return 256 * input.at(contents - 2) + input.at(contents - 1) - 2;
                default: return NONE;
            }
        }

        int ofFrame(int w) {
            if (frameCode == NONE) {
                return NONE;
            }
            switch (w) {
                case 0: return frameCode;
                case 1: return width;
                case 2: return height;
                case 3: return componentCount;
                case 4: return greatest(1);
                case 5: return greatest(2);
                default: return NONE;
            }
        }

        private int greatest(int w) {
            int most = 0;
            for (int c = 0; c < componentCount; c++) {
                most = Math.max(most, ofComponent(c, w));
            }
            return most;
        }

        int ofComponent(int c, int w) {
            if (c < 0 || c >= componentCount || w < 0 || w >= COMPONENT_ROW) {
                return NONE;
            }
            return components[c * COMPONENT_ROW + w];
        }

        int placeOfName(int name) {
            for (int c = 0; c < componentCount; c++) {
                if (ofComponent(c, 0) == name) {
                    return c;
                }
            }
            return NONE;
        }

        int ofScan(int i, int w) {
            if (i < 0 || i >= scanCount()) {
                return NONE;
            }
            int row = i * SCAN_ROW;
            int contents = scans.at(row);
            int count = input.at(contents);
            int behindNames = contents + 1 + 2 * count;
            switch (w) {
                case 0: return count;
                case 1: return input.at(behindNames);
                case 2: return input.at(behindNames + 1);
                case 3: return input.at(behindNames + 2) >> 4;
                case 4: return input.at(behindNames + 2) & 15;
                case 5: return scans.at(row + 1);
                case 6: return scans.at(row + 2);
                case 7: return scans.at(row + 3);
                case 8: return scans.at(row + 4);
                default: return w < 16 ? NONE : ofScanComponent(contents, count, w - 16);
            }
        }

        private int ofScanComponent(int contents, int count, int w) {
            int k = w / 4;
            if (k >= count) {
                return NONE;
            }
            int name = contents + 1 + 2 * k;
            switch (w % 4) {
                case 0: return placeOfName(input.at(name));
                case 1: return input.at(name + 1) >> 4;
                case 2: return input.at(name + 1) & 15;
                default: return NONE;
            }
        }

        int dataByte(int i, int k) {
            if (i < 0 || i >= scanCount() || k < 0) {
                return NONE;
            }
            int place = scans.at(i * SCAN_ROW + 1);
            int dataEnd = place + scans.at(i * SCAN_ROW + 2);
            int left = k;
            while (place < dataEnd) {
                int value = input.at(place);
                boolean restart = value == 255 && input.at(place + 1) != 0;
                if (!restart && left == 0) {
                    return value;
                }
                left -= restart ? 0 : 1;
                place += value == 255 ? 2 : 1;
            }
            return NONE;
        }

        int quantiserValue(int table, int k) {
            if (!hasQuantisers(table) || k < 0 || k >= COEFFICIENTS) {
                return NONE;
            }
            return input.at(quantisersAt[table] + k);
        }

        boolean hasQuantisers(int table) {
            return table >= 0 && table < quantisersAt.length && quantisersAt[table] != NONE;
        }

        void setQuantisers(int table, int place) {
            if (table >= 0 && table < quantisersAt.length) {
                quantisersAt[table] = place;
            }
        }

        int ofWords(int table, int what, int i) {
            int counts = placeOfWords(table);
            if (counts == NONE) {
                return NONE;
            }
            if (what == 0 && i >= 1 && i <= LENGTHS) {
                return input.at(counts + i - 1);
            }
            if (what == 1 && i >= 0 && i < wordCount(counts)) {
                return input.at(counts + LENGTHS + i);
            }
            return NONE;
        }

        int placeOfWords(int table) {
            int row = rowOfWords(table);
            return row >= 0 && row < wordsAt.length ? wordsAt[row] : NONE;
        }

        void setWords(int table, int place) {
            int row = rowOfWords(table);
            if (row >= 0 && row < wordsAt.length) {
                wordsAt[row] = place;
            }
        }

        private int rowOfWords(int table) {
            if (table >= 0 && table <= 3) {
                return table;
            }
            return table >= 16 && table <= 19 ? table - 12 : NONE;
        }

        private int wordCount(int counts) {
            int total = 0;
            for (int length = 1; length <= LENGTHS; length++) {
                total += input.at(counts + length - 1);
            }
            return total;
        }
    }

    /** A SCAN as its CONTENTS tell it, while it is held against what was sent before. */
    private static final class Scan {
        private int contents;
        private int count;
        private int first;
        private int last;
        private int before;
        private int bits;
        private final int[] places = new int[COMPONENTS];

        int placeAt(int k) {
            return k >= 0 && k < places.length ? places[k] : NONE;
        }

        int nameAt(int k) {
            return contents + 1 + 2 * k;
        }
    }

    /**
     * One way through the INPUT. The first fault stays: from it on every take answers NONE and
     * moves nothing, so that the methods need not look for it at each step; what they leave in the
     * Picture then is cleared at the end.
     */
    private static final class Parser {
        private static final int HIGHEST_BYTE = 255;

        private final Bytes input;
        private final Picture picture;
        private final Scan scan = new Scan();
        /** The BITS of the latest SCAN of each coefficient of each component, NONE without one. */
        private final int[] latestBits = new int[COMPONENTS * COEFFICIENTS];
        /** One bit for each symbol of the table of WORDS that is being read. */
        private final long[] seen = new long[4];
        private int place = 0;
        private int lengthPlace = 0;
        private int contentsEnd = 0;
        private boolean linesDue = false;
        private int fault = 0;
        private int faultPlace = NONE;

        Parser(Bytes input, Picture picture) {
            this.input = input;
            this.picture = picture;
        }

        void forget() {
            fault = 0;
            faultPlace = NONE;
            picture.clear();
        }

        void begin() {
            forget();
            Arrays.fill(latestBits, NONE);
            linesDue = false;
            if (input.size > 0 && input.at(0) != 255) {
                fail(NO_BEGINNING, 0);
            } else if (input.size < 2) {
                fail(INPUT_ENDS, input.size);
            } else if (input.at(1) != BEGINNING) {
                fail(NO_BEGINNING, 0);
            }
            place = 2;
        }

        boolean goesOn() {
            return fault == 0 && picture.end == NONE;
        }

        int finish() {
            if (fault != 0) {
                picture.clear();
            }
            return fault;
        }

        private int fail(int number, int where) {
            if (fault == 0) {
                fault = number;
                faultPlace = where;
            }
            return NONE;
        }

        void readNext() {
            int from = place;
            int code = takeMarker();
            if (code == NONE) {
                return;
            }
            if (code == END) {
                picture.end = place;
                return;
            }
            takeLength();
            picture.addSegment(from, place);
            readContents(code);
            if (code == SCAN) {
                readData();
            }
        }

        private int takeMarker() {
            int start = input.at(place);
            if (start != NONE && start != 255) {
                return fail(NO_MARKER, place);
            }
            for (; place < input.size; place++) {
                int code = input.at(place);
                if (code != 255) {
                    if (!canStand(code)) {
                        return fail(WRONG_MARKER, place);
                    }
                    place++;
                    return code;
                }
            }
            return fail(INPUT_ENDS, input.size);
        }

        private boolean canStand(int code) {
            if (linesDue || code == LINES) {
                return linesDue && code == LINES;
            }
            switch (code) {
                case QUANTISERS:
                case WORDS:
                case INTERVAL:
                    return true;
                case SEQUENTIAL:
                case PROGRESSIVE:
                    return picture.frameCode == NONE;
                case SCAN:
                    return picture.frameCode != NONE;
                case END:
                    return picture.frameCode != NONE && allBegun();
                default:
                    return isFree(code);
            }
        }

        private boolean isFree(int code) {
            return code == REMARK || code >= FIRST_FREE && code <= LAST_FREE;
        }

        private boolean allBegun() {
            for (int c = 0; c < picture.componentCount; c++) {
                if (latestOf(c, 0) == NONE) {
                    return false;
                }
            }
            return true;
        }

        private void takeLength() {
            lengthPlace = place;
            contentsEnd = place + 2;
            int length = takePair(0, 65535);
            if (length < 2) {
                fail(WRONG_LENGTH, lengthPlace);
            }
            contentsEnd = lengthPlace + length;
        }

        private void readContents(int code) {
            switch (code) {
                case QUANTISERS:
                    readQuantisers();
                    break;
                case WORDS:
                    readWords();
                    break;
                case INTERVAL:
                    picture.interval = takePair(0, 65535);
                    break;
                case SEQUENTIAL:
                case PROGRESSIVE:
                    readFrame(code);
                    break;
                case SCAN:
                    readScan();
                    break;
                case LINES:
                    picture.height = takePair(1, 64);
                    linesDue = false;
                    break;
                default:
                    skipContents();
            }
            if (place != contentsEnd) {
                fail(WRONG_LENGTH, lengthPlace);
            }
        }

        private void skipContents() {
            if (contentsEnd > input.size) {
                fail(INPUT_ENDS, input.size);
            }
            place = contentsEnd;
        }

        /** The next byte of the CONTENTS, which has to be low .. high. */
        private int take(int low, int high) {
            if (fault != 0) {
                return NONE;
            }
            if (place >= contentsEnd) {
                return fail(WRONG_LENGTH, lengthPlace);
            }
            int value = input.at(place);
            if (value == NONE) {
                return fail(INPUT_ENDS, input.size);
            }
            if (value < low || value > high) {
                return fail(WRONG_BYTE, place);
            }
            place++;
            return value;
        }

        private int takePair(int low, int high) {
            int upper = take(0, HIGHEST_BYTE);
            int lower = take(0, HIGHEST_BYTE);
            int value = 256 * upper + lower;
            if (value < low || value > high) {
                refuseTaken();
            }
            return fault == 0 ? value : NONE;
        }

        /** The byte just taken can not be there. */
        private void refuseTaken() {
            fail(WRONG_BYTE, place - 1);
        }

        private boolean moreContents() {
            return fault == 0 && place < contentsEnd;
        }

        private void readQuantisers() {
            boolean more = true;
            for (int turn = 0; turn < ROOM && more; turn++) {
                int table = take(0, 3);
                int values = place;
                for (int k = 0; k < COEFFICIENTS; k++) {
                    take(1, 255);
                }
                picture.setQuantisers(table, values);
                more = moreContents();
            }
        }

        private void readWords() {
            boolean more = true;
            for (int turn = 0; turn < ROOM && more; turn++) {
                int table = take(0, 19);
                if (table > 3 && table < 16) {
                    refuseTaken();
                }
                int counts = place;
                int total = takeCounts();
                takeSymbols(total, table < 16 ? 11 : HIGHEST_BYTE);
                picture.setWords(table, counts);
                more = moreContents();
            }
        }

        private int takeCounts() {
            int total = 0;
            int behindLast = 0;
            for (int length = 1; length <= LENGTHS; length++) {
                int count = take(0, HIGHEST_BYTE);
                total += count;
                // The words of one length end below behindLast, and all 1s is 2^length - 1.
                behindLast = 2 * behindLast + count;
                if (total > 256 || behindLast >= 1 << length) {
                    refuseTaken();
                }
            }
            if (total == 0) {
                refuseTaken();
            }
            return total;
        }

        private void takeSymbols(int total, int highest) {
            Arrays.fill(seen, 0L);
            for (int i = 0; i < total && fault == 0; i++) {
                int symbol = take(0, highest);
                if (symbol == NONE) {
                    return;
                }
                int part = symbol >> 6 & 3;
                long bit = 1L << (symbol & 63);
                if ((seen[part] & bit) != 0) {
                    refuseTaken();
                }
                seen[part] |= bit;
            }
        }

        private void readFrame(int code) {
            take(8, 8);
            picture.height = takePair(0, 64);
            picture.width = takePair(1, 64);
            int count = take(1, COMPONENTS);
            for (int c = 0; c < count; c++) {
                readComponent();
            }
            picture.frameCode = code;
        }

        private void readComponent() {
            int name = take(0, HIGHEST_BYTE);
            if (picture.placeOfName(name) != NONE) {
                refuseTaken();
            }
            int factors = take(0, HIGHEST_BYTE);
            int h = factors >> 4;
            int v = factors & 15;
            if (h < 1 || h > 2 || v < 1 || v > 2) {
                refuseTaken();
            }
            picture.addComponent(name, h, v, take(0, 3));
        }

        private void readScan() {
            scan.contents = place;
            scan.count = take(1, COMPONENTS);
            takeScanComponents();
            if (picture.frameCode == SEQUENTIAL) {
                scan.first = take(0, 0);
                scan.last = take(63, 63);
                takeBits(0);
            } else {
                scan.first = take(0, scan.count == 1 ? 63 : 0);
                scan.last = take(scan.first, scan.first == 0 ? 0 : 63);
                takeBits(HIGHEST_BYTE);
            }
            checkSent();
            checkTables();
            noteSent();
        }

        private void takeScanComponents() {
            int latest = NONE;
            int sum = 0;
            for (int k = 0; k < scan.count && k < COMPONENTS; k++) {
                int c = picture.placeOfName(take(0, HIGHEST_BYTE));
                if (c <= latest) {
                    fail(WRONG_COMPONENT, place - 1);
                }
                sum += picture.ofComponent(c, 1) * picture.ofComponent(c, 2);
                if (sum > 10) {
                    refuseTaken();
                }
                scan.places[k] = c;
                latest = c;
                int tables = take(0, 51);
                if ((tables & 15) > 3) {
                    refuseTaken();
                }
            }
        }

        private void takeBits(int highest) {
            int both = take(0, highest);
            scan.before = both >> 4;
            scan.bits = both & 15;
            if (scan.bits > 13 || scan.before != 0 && scan.before != scan.bits + 1) {
                refuseTaken();
            }
        }

        private int latestOf(int c, int coefficient) {
            int index = c * COEFFICIENTS + coefficient;
            return index >= 0 && index < latestBits.length ? latestBits[index] : NONE;
        }

        private void checkSent() {
            for (int k = 0; k < scan.count && fault == 0; k++) {
                int c = scan.placeAt(k);
                boolean begun = latestOf(c, 0) != NONE;
                boolean again = begun && picture.frameCode == SEQUENTIAL;
                if (again || scan.first > 0 && !begun) {
                    fail(WRONG_COMPONENT, scan.nameAt(k));
                }
                int due = scan.before == 0 ? NONE : scan.before;
                for (int i = scan.first; i <= scan.last; i++) {
                    if (latestOf(c, i) != due) {
                        refuseTaken();
                    }
                }
            }
        }

        private void checkTables() {
            for (int k = 0; k < scan.count && fault == 0; k++) {
                int name = scan.nameAt(k);
                int tables = input.at(name + 1);
                if (!picture.hasQuantisers(picture.ofComponent(scan.placeAt(k), 3))) {
                    fail(NO_TABLE, name);
                }
                boolean dc = scan.first == 0 && scan.before == 0;
                if (dc && picture.placeOfWords(tables >> 4) == NONE) {
                    fail(NO_TABLE, name + 1);
                }
                if (scan.last > 0 && picture.placeOfWords(16 + (tables & 15)) == NONE) {
                    fail(NO_TABLE, name + 1);
                }
            }
        }

        private void noteSent() {
            for (int k = 0; k < scan.count && fault == 0; k++) {
                int row = scan.placeAt(k) * COEFFICIENTS;
                for (int i = scan.first; i <= scan.last; i++) {
                    int index = row + i;
                    if (index >= 0 && index < latestBits.length) {
                        latestBits[index] = scan.bits;
                    }
                }
            }
        }

        private void readData() {
            int from = place;
            int restarts = 0;
            while (fault == 0 && place < input.size) {
                if (input.at(place) != 255) {
                    place++;
                    continue;
                }
                int next = input.at(place + 1);
                boolean restart = picture.interval > 0 && next == FIRST_RESTART + restarts % 8;
                if (restart) {
                    restarts++;
                }
                if (next != 0 && !restart) {
                    endData(from, restarts, next);
                    return;
                }
                place += 2;
            }
            fail(INPUT_ENDS, input.size);
        }

        private void endData(int from, int restarts, int next) {
            if (next == NONE) {
                fail(INPUT_ENDS, input.size);
            }
            linesDue = picture.scanCount() == 0 && picture.height == 0;
            picture.addScan(scan.contents, from, place - from, restarts);
        }
    }
}
