import java.util.Arrays;

/** What several tests need to talk with a line of lamps. */
final class Kit {
    static final long ALL_RESTS = 4294967295L;
    static final long TO_ALL = 281474976710655L;
    static final long SEARCHER = id(32766, 1);
    static final int SEARCH = 16;
    static final int GET = 32;
    static final int SET = 48;

    private Kit() {
    }

    static long id(int maker, long rest) {
        return ((long) maker << 32) + rest;
    }

    /** Puts just these bytes on the tape. */
    static void tape(LampLine x, int... bytes) {
        x.end(0);
        for (int from = 0; from < bytes.length; from += 20) {
            int[] part = Arrays.copyOf(Arrays.copyOfRange(bytes, from, Math.min(from + 20, bytes.length)), 20);
            x.feed(word(part, 0), word(part, 4), word(part, 8), word(part, 12), word(part, 16));
        }
        x.end(bytes.length);
    }

    private static int word(int[] bytes, int at) {
        return bytes[at] << 24 | bytes[at + 1] << 16 | bytes[at + 2] << 8 | bytes[at + 3];
    }

    static int send(LampLine x, int... bytes) {
        tape(x, bytes);
        return x.send();
    }

    static int ask(LampLine x, int maker, long rest, int kind, int matter, int... data) {
        tape(x, data);
        return x.ask(maker, rest, 0, kind, matter);
    }

    static int askPart(LampLine x, int maker, long rest, int part, int kind, int matter, int... data) {
        tape(x, data);
        return x.ask(maker, rest, part, kind, matter);
    }

    /** The latest answer, as far as it can be read. */
    static int[] answer(LampLine x) {
        int[] bytes = new int[600];
        int size = 0;
        try {
            while (size < bytes.length) {
                bytes[size] = x.answer(size);
                size++;
            }
        } catch (IndexOutOfBoundsException end) {
            return Arrays.copyOf(bytes, size);
        }
        return bytes;
    }

    /** DATA of the latest answer, which is a packet; a call for each byte alone, as an object is good for 512 calls. */
    static int[] data(LampLine x) {
        int[] data = new int[x.answer(23)];
        for (int k = 0; k < data.length; k++) {
            data[k] = x.answer(24 + k);
        }
        return data;
    }

    /** head: COUNT, KIND, MESSAGES, PART, CLASS, MATTER. */
    static int[] packet(long to, long from, int[] head, int... data) {
        int[] p = new int[26 + data.length];
        p[0] = 204;
        p[1] = 1;
        p[2] = 24 + data.length;
        put(p, 3, to, 6);
        put(p, 9, from, 6);
        p[15] = head[0];
        p[16] = head[1];
        p[17] = head[2];
        put(p, 18, head[3], 2);
        p[20] = head[4];
        put(p, 21, head[5], 2);
        p[23] = data.length;
        System.arraycopy(data, 0, p, 24, data.length);
        return checked(p);
    }

    /** The same bytes with the CHECK that is due to them. */
    static int[] checked(int[] packet) {
        int[] p = packet.clone();
        long sum = 0;
        for (int k = 0; k < p.length - 2; k++) {
            sum += p[k];
        }
        put(p, p.length - 2, sum % 65536, 2);
        return p;
    }

    static int[] head(int... numbers) {
        return numbers;
    }

    private static void put(int[] bytes, int at, long number, int size) {
        for (int k = 0; k < size; k++) {
            bytes[at + k] = (int) (number >> 8 * (size - 1 - k)) & 255;
        }
    }

    static int[] with(int[] bytes, int at, int value) {
        int[] changed = bytes.clone();
        changed[at] = value;
        return changed;
    }

    static int[] bytes(String text) {
        return text.chars().toArray();
    }

    static int[] same(int value, int size) {
        int[] bytes = new int[size];
        Arrays.fill(bytes, value);
        return bytes;
    }

    static int[] idBytes(long id) {
        int[] bytes = new int[6];
        put(bytes, 0, id, 6);
        return bytes;
    }

    static int[] joined(int[] a, int... b) {
        int[] both = Arrays.copyOf(a, a.length + b.length);
        System.arraycopy(b, 0, both, a.length, b.length);
        return both;
    }

    /** The 24 bytes by which a lamp answers a SEARCH 1. */
    static int[] echo(long id) {
        int[] bytes = new int[24];
        Arrays.fill(bytes, 0, 7, 254);
        bytes[7] = 170;
        int sum = 0;
        int at = 8;
        for (int b : idBytes(id)) {
            bytes[at] = b | 170;
            bytes[at + 1] = b | 85;
            sum += bytes[at] + bytes[at + 1];
            at += 2;
        }
        bytes[20] = sum / 256 | 170;
        bytes[21] = sum / 256 | 85;
        bytes[22] = sum % 256 | 170;
        bytes[23] = sum % 256 | 85;
        return bytes;
    }

    /** What those echoes are when they fall together. */
    static int[] together(long... ids) {
        int[] bytes = new int[24];
        for (long id : ids) {
            int[] one = echo(id);
            for (int k = 0; k < bytes.length; k++) {
                bytes[k] |= one[k];
            }
        }
        return bytes;
    }

    /** Steps until the latest branch is low .. high: all echoes of a lamp in it are spoiled before that. */
    static void narrow(LampLine x, long low, long high) {
        for (int k = 0; k < 120; k++) {
            long least = x.branch(0);
            long greatest = x.branch(1);
            if (least == low && greatest == high) {
                return;
            }
            if (least <= low && high <= greatest) {
                x.spoil(0, 255);
            }
            x.step(1);
        }
    }

    /** Spoils that turn one answer into another one of the same size, 16 bytes of it at most. */
    static void spoilInto(LampLine x, int[] is, int[] shall) {
        for (int k = 0; k < is.length; k++) {
            if (is[k] != shall[k]) {
                x.spoil(k, is[k] ^ shall[k]);
            }
        }
    }
}
