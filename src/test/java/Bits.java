import java.util.function.Supplier;

/** Rows of bits as the document writes them, and the way of such a row onto a track. */
final class Bits {
    private static final String[] FIVES = {"01010", "01011", "10010", "10011", "01110", "01111", "10110", "10111",
        "01001", "11001", "11010", "11011", "01101", "11101", "11110", "10101"};

    static final int HEADER = 40;
    static final int DATA = 188;
    static final int SECTOR = 912;

    private Bits() {
    }

    /** How many bytes a track has. */
    static int size(int track) {
        return track <= 8 ? 1060 : track <= 12 ? 940 : 830;
    }

    static int sectors(int track) {
        return track <= 8 ? 9 : track <= 12 ? 8 : 7;
    }

    static boolean isCode(String five) {
        for (String known : FIVES) {
            if (known.equals(five)) {
                return true;
            }
        }
        return false;
    }

    static String ones(int many) {
        return "1".repeat(many);
    }

    static String zeros(int many) {
        return "0".repeat(many);
    }

    /** Bytes 85. */
    static String gap(int many) {
        return "01010101".repeat(many);
    }

    static String coded(int... bytes) {
        StringBuilder text = new StringBuilder();
        for (int v : bytes) {
            text.append(FIVES[v / 16]).append(FIVES[v % 16]);
        }
        return text.toString();
    }

    static String header(int track, int sector, int id) {
        return coded(8, sector ^ track ^ id / 256 ^ id % 256, sector, track, id / 256, id % 256);
    }

    /** DATA whose first bytes are these, the others 0. */
    static String data(int... first) {
        StringBuilder text = new StringBuilder(coded(7));
        int sum = 0;
        for (int i = 0; i < 64; i++) {
            int v = i < first.length ? first[i] : 0;
            sum ^= v;
            text.append(coded(v));
        }
        return text.append(coded(sum)).toString();
    }

    /** A sector as format lays it. */
    static String sector(int track, int sector, int id, int... first) {
        return ones(40) + header(track, sector, id) + gap(6) + ones(40) + data(first) + gap(8);
    }

    /** A track as format lays it. */
    static String track(int track, int id) {
        StringBuilder text = new StringBuilder();
        for (int s = 0; s < sectors(track); s++) {
            text.append(sector(track, s, id));
        }
        return text.append(gap(size(track) - text.length() / 8)).toString();
    }

    /** The bits of a ring once a row of others lies over them from a place on. */
    static String over(String ring, int at, String bits) {
        char[] row = ring.toCharArray();
        for (int i = 0; i < bits.length(); i++) {
            row[Math.floorMod(at + i, row.length)] = bits.charAt(i);
        }
        return new String(row);
    }

    /** A ring's bits moved on by n places. */
    static String turned(String ring, int n) {
        return over(ring, n, ring);
    }

    /** Lays bits on a track from bit 0 on, its others staying; whole bytes. */
    static void lay(Drive x, int track, String bits) {
        int bytes = bits.length() / 8;
        int i = 0;
        for (; i + 4 <= bytes; i += 4) {
            x.stamp(track, i, Integer.parseUnsignedInt(bits.substring(8 * i, 8 * i + 32), 2));
        }
        for (; i < bytes; i++) {
            x.poke(track, i, Integer.parseInt(bits.substring(8 * i, 8 * i + 8), 2));
        }
    }

    /** Puts some bits onto a track from a bit on, round the ring, its others staying. */
    static void put(Drive x, int track, int at, String bits) {
        int ring = 8 * size(track);
        int place = Math.floorMod(at, ring);
        int done = 0;
        while (done < bits.length()) {
            int i = (place + done) % ring / 8;
            int skip = (place + done) % 8;
            int many = Math.min(8 - skip, bits.length() - done);
            int mask = (1 << many) - 1 << 8 - skip - many;
            int v = Integer.parseInt(bits.substring(done, done + many), 2) << 8 - skip - many;
            x.poke(track, i, x.peek(track, i) & ~mask | v);
            done += many;
        }
    }

    /** A track is these bits: looked at on as many objects, made alike, as the 512 calls ask for. */
    static void due(String call, Supplier<Drive> made, int track, String bits) {
        Check.due(call + ": bits of a track", bits.length(), 8 * size(track));
        Drive x = made.get();
        for (int i = 0; i < bits.length() / 8; i++) {
            if (x.calls() == Drive.MOST_CALLS) {
                x = made.get();
            }
            int want = Integer.parseInt(bits.substring(8 * i, 8 * i + 8), 2);
            Check.due(call + ": peek(" + track + ", " + i + ")", x.peek(track, i), want);
        }
    }
}
