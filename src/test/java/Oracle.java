import java.util.ArrayList;
import java.util.Arrays;
import java.util.HashMap;
import java.util.HashSet;
import java.util.List;
import java.util.Map;
import java.util.Set;

/** A second reading of the document, by exceptions and lists, that copies all it reads. */
final class Oracle {
    static final class Fault extends RuntimeException {
        private static final long serialVersionUID = 1L;
        final int number;
        final int place;

        Fault(int number, int place) {
            this.number = number;
            this.place = place;
        }
    }

    static final class Scan {
        int[] told;
        List<int[]> parts = new ArrayList<>();
        List<Integer> data = new ArrayList<>();
    }

    final byte[] bytes;
    int fault = 0;
    int faultPlace = -1;
    int end = -1;
    int interval = 0;
    int[] frame = null;
    List<int[]> segments = new ArrayList<>();
    List<int[]> components = new ArrayList<>();
    List<Scan> scans = new ArrayList<>();
    Map<Integer, int[]> quantisers = new HashMap<>();
    Map<Integer, int[][]> words = new HashMap<>();
    private final Map<Integer, Integer> sent = new HashMap<>();
    private int at = 0;
    private int lengthAt = 0;
    private int limit = Integer.MAX_VALUE;

    Oracle(byte[] bytes) {
        this.bytes = bytes;
        try {
            file();
        } catch (Fault seen) {
            fault = seen.number;
            faultPlace = seen.place;
            end = -1;
            interval = 0;
            frame = null;
            segments.clear();
            components.clear();
            scans.clear();
            quantisers.clear();
            words.clear();
        }
    }

    private int next() {
        if (at >= limit) {
            throw new Fault(5, lengthAt);
        }
        if (at >= bytes.length) {
            throw new Fault(1, bytes.length);
        }
        return bytes[at++] & 255;
    }

    private int want(boolean right, int value) {
        if (!right) {
            throw new Fault(6, at - 1);
        }
        return value;
    }

    private int next(int low, int high) {
        int value = next();
        return want(value >= low && value <= high, value);
    }

    private int two(int low, int high) {
        int value = 256 * next();
        value += next();
        return want(value >= low && value <= high, value);
    }

    private void file() {
        if (next() != 255 || next() != 216) {
            throw new Fault(2, 0);
        }
        boolean lines = false;
        while (true) {
            int from = at;
            if (next() != 255) {
                throw new Fault(3, from);
            }
            int code = 255;
            while (code == 255) {
                code = next();
            }
            if (!allowed(code, lines)) {
                throw new Fault(4, at - 1);
            }
            if (code == 217) {
                end = at;
                return;
            }
            lengthAt = at;
            int length = two(0, 65535);
            if (length < 2) {
                throw new Fault(5, lengthAt);
            }
            segments.add(new int[] {code, from, at, length - 2});
            limit = lengthAt + length;
            contents(code);
            if (at != limit) {
                throw new Fault(5, lengthAt);
            }
            limit = Integer.MAX_VALUE;
            lines = false;
            if (code == 218) {
                data(scans.get(scans.size() - 1));
                lines = scans.size() == 1 && frame[2] == 0;
            }
        }
    }

    private boolean allowed(int code, boolean lines) {
        if (lines) {
            return code == 220;
        }
        if (code == 192 || code == 194) {
            return frame == null;
        }
        if (code == 218) {
            return frame != null;
        }
        if (code == 217) {
            if (frame == null) {
                return false;
            }
            for (int c = 0; c < components.size(); c++) {
                if (!sent.containsKey(64 * c)) {
                    return false;
                }
            }
            return true;
        }
        return code == 219 || code == 196 || code == 221 || code == 254 || code >= 224 && code < 240;
    }

    private void contents(int code) {
        if (code == 219) {
            do {
                int table = next(0, 3);
                int[] values = new int[64];
                for (int k = 0; k < 64; k++) {
                    values[k] = next(1, 255);
                }
                quantisers.put(table, values);
            } while (at < limit);
        } else if (code == 196) {
            do {
                wordTable();
            } while (at < limit);
        } else if (code == 221) {
            interval = two(0, 65535);
        } else if (code == 220) {
            frame[2] = two(1, 64);
        } else if (code == 218) {
            scan();
        } else if (code == 192 || code == 194) {
            frame(code);
        } else {
            while (at < limit) {
                next();
            }
        }
    }

    private void wordTable() {
        int table = next();
        want(table < 4 || table >= 16 && table < 20, table);
        int[] counts = new int[17];
        List<String> all = new ArrayList<>();
        for (int length = 1; length <= 16; length++) {
            counts[length] = next();
            for (int i = 0; i < counts[length]; i++) {
                String word = "0".repeat(length);
                if (!all.isEmpty()) {
                    String last = all.get(all.size() - 1);
                    int number = Integer.parseInt(last, 2) + 1;
                    word = Integer.toBinaryString(number << length - last.length());
                    word = "0".repeat(Math.max(0, length - word.length())) + word;
                }
                want(word.length() == length && word.indexOf('0') >= 0, 0);
                all.add(word);
                want(all.size() <= 256, 0);
            }
        }
        want(!all.isEmpty(), 0);
        Set<Integer> seen = new HashSet<>();
        int[] symbols = new int[all.size()];
        for (int i = 0; i < symbols.length; i++) {
            symbols[i] = next(0, table < 4 ? 11 : 255);
            want(seen.add(symbols[i]), 0);
        }
        words.put(table, new int[][] {counts, symbols});
    }

    private void frame(int code) {
        next(8, 8);
        int height = two(0, 64);
        int width = two(1, 64);
        int count = next(1, 4);
        int[] most = {0, 0};
        Set<Integer> names = new HashSet<>();
        for (int c = 0; c < count; c++) {
            int name = next();
            want(names.add(name), 0);
            int both = next();
            want(Arrays.asList(0x11, 0x12, 0x21, 0x22).contains(both), 0);
            most[0] = Math.max(most[0], both / 16);
            most[1] = Math.max(most[1], both % 16);
            components.add(new int[] {name, both / 16, both % 16, next(0, 3)});
        }
        frame = new int[] {code, width, height, count, most[0], most[1]};
    }

    private void scan() {
        Scan scan = new Scan();
        int count = next(1, 4);
        int[] places = new int[count];
        int sum = 0;
        for (int k = 0; k < count; k++) {
            places[k] = at;
            int name = next();
            int from = k == 0 ? 0 : scan.parts.get(k - 1)[0] + 1;
            while (from < components.size() && components.get(from)[0] != name) {
                from++;
            }
            if (from >= components.size()) {
                throw new Fault(7, at - 1);
            }
            sum += components.get(from)[1] * components.get(from)[2];
            want(count == 1 || sum <= 10, 0);
            int tables = next();
            want(tables / 16 < 4 && tables % 16 < 4, 0);
            scan.parts.add(new int[] {from, tables / 16, tables % 16});
        }
        boolean progressive = frame[0] == 194;
        int first = next();
        want(progressive ? first <= 63 && (first == 0 || count == 1) : first == 0, 0);
        int last = next();
        want(progressive ? first == 0 ? last == 0 : last >= first && last <= 63 : last == 63, 0);
        int both = next();
        int before = both / 16;
        int bits = both % 16;
        want(progressive ? bits <= 13 && (before == 0 || before == bits + 1) : both == 0, 0);
        for (int k = 0; k < count; k++) {
            boolean there = sent.containsKey(64 * scan.parts.get(k)[0]);
            if (progressive ? first > 0 && !there : there) {
                throw new Fault(7, places[k]);
            }
        }
        for (int[] part : scan.parts) {
            for (int i = first; i <= last; i++) {
                Integer latest = sent.get(64 * part[0] + i);
                want(latest == null ? before == 0 : before != 0 && before == latest, 0);
            }
        }
        for (int k = 0; k < count; k++) {
            int[] part = scan.parts.get(k);
            if (!quantisers.containsKey(components.get(part[0])[3])) {
                throw new Fault(8, places[k]);
            }
            boolean dc = first > 0 || before > 0 || words.containsKey(part[1]);
            boolean ac = last == 0 || words.containsKey(16 + part[2]);
            if (!dc || !ac) {
                throw new Fault(8, places[k] + 1);
            }
        }
        for (int[] part : scan.parts) {
            for (int i = first; i <= last; i++) {
                sent.put(64 * part[0] + i, bits);
            }
        }
        scan.told = new int[] {count, first, last, before, bits, 0, 0, 0, interval};
        scans.add(scan);
    }

    private void data(Scan scan) {
        int from = at;
        int restarts = 0;
        while (true) {
            int value = next();
            if (value == 255) {
                int code = next();
                if (code != 0) {
                    if (interval == 0 || code != 208 + (restarts & 7)) {
                        at -= 2;
                        break;
                    }
                    restarts++;
                    continue;
                }
            }
            scan.data.add(value);
        }
        scan.told[5] = from;
        scan.told[6] = at - from;
        scan.told[7] = restarts;
    }

    int segment(int i, int w) {
        return i >= 0 && i < segments.size() ? in(segments.get(i), w) : -1;
    }

    int frame(int w, int unused) {
        return frame == null ? -1 : in(frame, w);
    }

    int component(int c, int w) {
        return c >= 0 && c < components.size() ? in(components.get(c), w) : -1;
    }

    int scan(int i, int w) {
        if (i < 0 || i >= scans.size()) {
            return -1;
        }
        Scan scan = scans.get(i);
        if (w < 16) {
            return in(scan.told, w);
        }
        int k = w / 4 - 4;
        return k < scan.parts.size() ? in(scan.parts.get(k), w % 4) : -1;
    }

    int data(int i, int k) {
        return i < 0 || i >= scans.size() || k < 0 || k >= scans.get(i).data.size() ? -1
            : scans.get(i).data.get(k);
    }

    int quantiser(int table, int k) {
        return quantisers.containsKey(table) ? in(quantisers.get(table), k) : -1;
    }

    int word(int table, int what, int i) {
        if (!words.containsKey(table) || what < 0 || what > 1 || what == 0 && i == 0) {
            return -1;
        }
        return in(words.get(table)[what], i);
    }

    int look(int which) {
        return in(new int[] {bytes.length, fault, faultPlace, segments.size(), scans.size(), interval, end},
            which);
    }

    private static int in(int[] row, int w) {
        return w >= 0 && w < row.length ? row[w] : -1;
    }
}
