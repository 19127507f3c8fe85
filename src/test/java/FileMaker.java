import java.io.ByteArrayOutputStream;
import java.util.Arrays;

/** Writes the bytes of a file, right or wrong. */
final class FileMaker {
    private final ByteArrayOutputStream bytes = new ByteArrayOutputStream();

    /** A file from its MARKER 216 on. */
    static FileMaker begun() {
        return new FileMaker().put(255, 216);
    }

    /** A file whose tables 0 of all kinds are there. */
    static FileMaker withTables() {
        return begun().quantisers(0, 1).words(0, 1).words(16, 1);
    }

    /** A file of one component of the name 1 up to its FRAME. */
    static FileMaker framed(int code) {
        return withTables().frame(code, 16, 0x11, 1);
    }

    /** A sequential file up to the bytes of its only SCAN's DATA. */
    static FileMaker scanned() {
        return framed(192).scan(0, 63, 0, 1);
    }

    static FileMaker of(byte[] all) {
        FileMaker made = new FileMaker();
        made.bytes.write(all, 0, all.length);
        return made;
    }

    FileMaker copy() {
        return of(made());
    }

    /** What stands ahead of that place. */
    FileMaker cut(int place) {
        return of(Arrays.copyOf(made(), place));
    }

    FileMaker append(FileMaker more) {
        byte[] all = more.made();
        bytes.write(all, 0, all.length);
        return this;
    }

    FileMaker put(int... values) {
        for (int value : values) {
            bytes.write(value);
        }
        return this;
    }

    FileMaker repeat(int value, int times) {
        for (int i = 0; i < times; i++) {
            bytes.write(value);
        }
        return this;
    }

    /** A SEGMENT with the LENGTH that its CONTENTS have. */
    FileMaker segment(int code, int... contents) {
        int length = contents.length + 2;
        return put(255).put(code).put(length >> 8).put(length & 255).put(contents);
    }

    FileMaker quantisers(int table, int firstValue) {
        return segment(219, quantiserTable(table, firstValue));
    }

    /** The values count up by 1, from 255 on to 1. */
    static int[] quantiserTable(int table, int firstValue) {
        int[] contents = new int[65];
        contents[0] = table;
        for (int k = 0; k < 64; k++) {
            contents[1 + k] = (firstValue - 1 + k) % 255 + 1;
        }
        return contents;
    }

    /** Words of two bits, 1 to 3 of them, the symbols being 0, 1, 2. */
    FileMaker words(int table, int count) {
        int[] contents = new int[17 + count];
        contents[0] = table;
        contents[2] = count;
        for (int i = 0; i < count; i++) {
            contents[17 + i] = i;
        }
        return segment(196, contents);
    }

    /** COUNTS of lengths 1, 2 and so on, the rest being 0, behind the table's byte. */
    static int[] counts(int table, int... counts) {
        int[] contents = new int[17];
        contents[0] = table;
        System.arraycopy(counts, 0, contents, 1, counts.length);
        return contents;
    }

    static int[] joined(int[] head, int... tail) {
        int[] all = Arrays.copyOf(head, head.length + tail.length);
        System.arraycopy(tail, 0, all, head.length, tail.length);
        return all;
    }

    /** A FRAME of 16 lines of 24 with components of these names, of 16 * H + V as told, with table 0. */
    FileMaker frame(int code, int height, int factors, int... names) {
        int[] contents = new int[6 + 3 * names.length];
        contents[0] = 8;
        contents[1] = height >> 8;
        contents[2] = height & 255;
        contents[4] = 24;
        contents[5] = names.length;
        for (int c = 0; c < names.length; c++) {
            contents[6 + 3 * c] = names[c];
            contents[7 + 3 * c] = factors;
        }
        return segment(code, contents);
    }

    /** A SCAN of components of these names with tables 0. */
    FileMaker scan(int first, int last, int both, int... names) {
        int[] contents = new int[4 + 2 * names.length];
        contents[0] = names.length;
        for (int k = 0; k < names.length; k++) {
            contents[1 + 2 * k] = names[k];
        }
        contents[1 + 2 * names.length] = first;
        contents[2 + 2 * names.length] = last;
        contents[3 + 2 * names.length] = both;
        return segment(218, contents);
    }

    FileMaker end() {
        return put(255, 217);
    }

    int size() {
        return bytes.size();
    }

    byte[] made() {
        return bytes.toByteArray();
    }

    /** A new object with these bytes as its INPUT. */
    SegmentReader given() {
        SegmentReader reader = new SegmentReader();
        giveTo(reader);
        return reader;
    }

    void giveTo(SegmentReader reader) {
        byte[] all = made();
        for (int at = 0; at < all.length; at += 8) {
            int n = Math.min(8, all.length - at);
            long v = 0;
            for (int i = 0; i < n; i++) {
                v = v << 8 | all[at + i] & 255;
            }
            if (!reader.give(v, n)) {
                throw new IllegalStateException("no room");
            }
        }
    }
}
