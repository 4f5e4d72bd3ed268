import java.util.ArrayList;
import java.util.Arrays;
import java.util.List;

/** The document once more, bit by bit and as slowly as it reads, to hold BitDrive against. */
final class Model {
    private static final String[] CODE = ("01010 01011 10010 10011 01110 01111 10110 10111 "
            + "01001 11001 11010 11011 01101 11101 11110 10101").split(" ");

    /** An ERROR and the block at which it was. */
    private static final class Fault extends RuntimeException {
        private static final long serialVersionUID = 1L;
        final int number;
        final int track;
        final int sector;

        Fault(int number, int track, int sector) {
            super(null, null, false, false);
            this.number = number;
            this.track = track;
            this.sector = sector;
        }
    }

    private static final class Found {
        int[] at;
        int[] block;
        int entry = -1;
        final List<int[]> places = new ArrayList<>();
        final List<int[]> blocks = new ArrayList<>();
    }

    final boolean[][] tracks = new boolean[17][];
    int id = -1;
    List<Integer> tape = new ArrayList<>();
    List<Integer> out = new ArrayList<>();
    int[] status = {0, 0, 0};
    final int[] counts = new int[3];

    Model() {
        for (int t = 1; t <= 16; t++) {
            tracks[t] = new boolean[8 * (t <= 8 ? 1060 : t <= 12 ? 940 : 830)];
        }
    }

    static int sectors(int t) {
        return t < 1 || t > 16 ? 0 : t <= 8 ? 9 : t <= 12 ? 8 : 7;
    }

    static boolean isBlock(int t, int s) {
        return s >= 0 && s < sectors(t);
    }

    private static boolean isTrack(int t) {
        return t >= 1 && t <= 16;
    }

    // ---- bits

    private int coded(boolean[] ring, int at) {
        int high = half(ring, at);
        int low = half(ring, at + 5);
        return high < 0 || low < 0 ? -1 : 16 * high + low;
    }

    private static int half(boolean[] ring, int at) {
        for (int v = 0; v < 16; v++) {
            int same = 0;
            while (same < 5 && ring[(at + same) % ring.length] == (CODE[v].charAt(same) == '1')) {
                same++;
            }
            if (same == 5) {
                return v;
            }
        }
        return -1;
    }

    private static String code(int v) {
        return CODE[v / 16] + CODE[v % 16];
    }

    private static int put(boolean[] ring, int at, String bits) {
        for (int i = 0; i < bits.length(); i++) {
            ring[(at + i) % ring.length] = bits.charAt(i) == '1';
        }
        return at + bits.length();
    }

    private static List<Integer> starts(boolean[] ring) {
        List<Integer> starts = new ArrayList<>();
        for (int i = 0; i < ring.length; i++) {
            boolean sync = !ring[i];
            for (int k = 1; k <= 10 && sync; k++) {
                sync = ring[Math.floorMod(i - k, ring.length)];
            }
            if (sync) {
                starts.add(i);
            }
        }
        return starts;
    }

    private static String data(int[] bytes) {
        StringBuilder text = new StringBuilder("1".repeat(40)).append(code(7));
        int sum = 0;
        for (int v : bytes) {
            text.append(code(v));
            sum ^= v;
        }
        return text.append(code(sum)).append("01010101").toString();
    }

    private int seek(int t, int s, List<Integer> starts) {
        boolean[] ring = tracks[t];
        if (starts.isEmpty()) {
            throw new Fault(21, t, s);
        }
        for (int n = 0; n < starts.size(); n++) {
            int[] header = new int[6];
            boolean allCode = true;
            for (int i = 0; i < 6; i++) {
                header[i] = coded(ring, starts.get(n) + 10 * i);
                allCode &= header[i] >= 0;
            }
            if (allCode && header[0] == 8 && header[2] == s && header[3] == t) {
                if (header[1] != (header[2] ^ header[3] ^ header[4] ^ header[5])) {
                    throw new Fault(27, t, s);
                }
                if (256 * header[4] + header[5] != id) {
                    throw new Fault(29, t, s);
                }
                return n;
            }
        }
        throw new Fault(20, t, s);
    }

    private void checkBlock(int t, int s) {
        if (id < 0) {
            throw new Fault(74, 0, 0);
        }
        if (!isBlock(t, s)) {
            throw new Fault(66, t, s);
        }
    }

    private int[] readBlock(int t, int s) {
        checkBlock(t, s);
        try {
            int[] bytes = take(t, s);
            counts[0]++;
            return bytes;
        } catch (Fault fault) {
            counts[2]++;
            throw fault;
        }
    }

    private int[] take(int t, int s) {
        boolean[] ring = tracks[t];
        List<Integer> starts = starts(ring);
        int at = starts.get((seek(t, s, starts) + 1) % Math.max(1, starts.size()));
        int[] all = new int[66];
        for (int i = 0; i < 66; i++) {
            all[i] = coded(ring, at + 10 * i);
        }
        if (all[0] != 7) {
            throw new Fault(22, t, s);
        }
        int sum = 0;
        for (int i = 1; i < 66; i++) {
            if (all[i] < 0) {
                throw new Fault(24, t, s);
            }
            sum ^= all[i];
        }
        if (sum != 0) {
            throw new Fault(23, t, s);
        }
        return Arrays.copyOfRange(all, 1, 65);
    }

    private void writeBlock(int t, int s, int[] bytes) {
        checkBlock(t, s);
        List<Integer> starts = starts(tracks[t]);
        int n;
        try {
            n = seek(t, s, starts);
        } catch (Fault fault) {
            counts[2]++;
            throw fault;
        }
        put(tracks[t], starts.get(n) + 108, data(bytes));
        counts[1]++;
    }

    // ---- the disk

    private static int[] name(int a, int b) {
        int[] name = new int[8];
        for (int i = 0; i < 4; i++) {
            name[i] = a >>> 24 - 8 * i & 255;
            name[i + 4] = b >>> 24 - 8 * i & 255;
        }
        return name;
    }

    private int[] open() {
        if (id < 0) {
            throw new Fault(74, 0, 0);
        }
        return readBlock(9, 0);
    }

    private Found walk(int[] name) {
        Found found = new Found();
        int[] at = {9, 1};
        while (true) {
            int[] block = readBlock(at[0], at[1]);
            found.places.add(at);
            found.blocks.add(block);
            for (int e = 2; e <= 50; e += 12) {
                if (name != null && block[e] != 0 && Arrays.equals(name, Arrays.copyOfRange(block, e + 4, e + 12))) {
                    found.at = at;
                    found.block = block;
                    found.entry = e;
                    return found;
                }
            }
            if (block[0] == 0 && block[1] == 0) {
                return found;
            }
            if (!isBlock(block[0], block[1]) || found.places.size() == 7) {
                throw new Fault(66, at[0], at[1]);
            }
            at = new int[] {block[0], block[1]};
        }
    }

    private List<int[]> follow(Found found, List<Integer> bytes) {
        if (found.entry < 0) {
            throw new Fault(62, 0, 0);
        }
        List<int[]> places = new ArrayList<>();
        int[] ahead = found.at;
        int[] at = {found.block[found.entry + 1], found.block[found.entry + 2]};
        while (true) {
            if (!isBlock(at[0], at[1]) || places.size() == 40) {
                throw new Fault(66, ahead[0], ahead[1]);
            }
            int[] block = readBlock(at[0], at[1]);
            places.add(at);
            int many = block[0] == 0 ? block[1] : 62;
            if (many > 62) {
                throw new Fault(66, at[0], at[1]);
            }
            for (int i = 0; i < many; i++) {
                bytes.add(block[2 + i]);
            }
            if (block[0] == 0) {
                return places;
            }
            ahead = at;
            at = new int[] {block[0], block[1]};
        }
    }

    private static boolean free(int[] map, int t, int s) {
        return (map[2 * t + s / 8] & 1 << s % 8) != 0;
    }

    private void saveFile(int type, int[] name, List<Integer> file) {
        int[] map = open();
        Found found = walk(name);
        if (found.entry >= 0) {
            throw new Fault(63, found.at[0], found.at[1]);
        }
        int[] home = null;
        int[] homeBlock = new int[64];
        int homeEntry = 2;
        for (int n = 0; n < found.places.size() && home == null; n++) {
            for (int e = 2; e <= 50 && home == null; e += 12) {
                if (found.blocks.get(n)[e] == 0) {
                    home = found.places.get(n);
                    homeBlock = found.blocks.get(n);
                    homeEntry = e;
                }
            }
        }
        boolean grows = home == null;
        for (int s = 0; s < 8 && home == null && found.places.size() < 7; s++) {
            if (free(map, 9, s)) {
                home = new int[] {9, s};
                map[18] &= ~(1 << s);
            }
        }
        if (home == null) {
            throw new Fault(72, 0, 0);
        }
        List<int[]> taken = takeBlocks(map, Math.max(1, (file.size() + 61) / 62));
        for (int n = 0; n < taken.size(); n++) {
            int[] block = new int[64];
            boolean last = n == taken.size() - 1;
            List<Integer> part = file.subList(62 * n, last ? file.size() : 62 * n + 62);
            block[0] = last ? 0 : taken.get(n + 1)[0];
            block[1] = last ? part.size() : taken.get(n + 1)[1];
            for (int i = 0; i < part.size(); i++) {
                block[2 + i] = part.get(i);
            }
            writeBlock(taken.get(n)[0], taken.get(n)[1], block);
        }
        homeBlock[homeEntry] = type;
        homeBlock[homeEntry + 1] = taken.get(0)[0];
        homeBlock[homeEntry + 2] = taken.get(0)[1];
        homeBlock[homeEntry + 3] = taken.size();
        System.arraycopy(name, 0, homeBlock, homeEntry + 4, 8);
        writeBlock(home[0], home[1], homeBlock);
        if (grows) {
            int last = found.places.size() - 1;
            found.blocks.get(last)[0] = home[0];
            found.blocks.get(last)[1] = home[1];
            writeBlock(found.places.get(last)[0], found.places.get(last)[1], found.blocks.get(last));
        }
        writeBlock(9, 0, map);
    }

    private static List<int[]> takeBlocks(int[] map, int needed) {
        List<int[]> taken = new ArrayList<>();
        for (int t : new int[] {8, 7, 6, 5, 4, 3, 2, 1, 10, 11, 12, 13, 14, 15, 16}) {
            for (int s = 0; s < sectors(t) && taken.size() < needed; s++) {
                if (free(map, t, s)) {
                    taken.add(new int[] {t, s});
                    map[2 * t + s / 8] &= ~(1 << s % 8);
                }
            }
        }
        if (taken.size() < needed) {
            throw new Fault(72, 0, 0);
        }
        return taken;
    }

    private int told(Fault fault) {
        status = new int[] {fault.number, fault.track, fault.sector};
        return fault.number;
    }

    private int done() {
        status = new int[] {0, 0, 0};
        return 0;
    }

    // ---- the calls

    int feed(int... numbers) {
        if (tape.size() + 20 > 2480) {
            return -1;
        }
        for (int v : numbers) {
            for (int shift = 24; shift >= 0; shift -= 8) {
                tape.add(v >>> shift & 255);
            }
        }
        return tape.size();
    }

    int end(int n) {
        if (n < 0 || n > tape.size()) {
            return -1;
        }
        tape = new ArrayList<>(tape.subList(0, n));
        return n;
    }

    int format(int newId, int a, int b) {
        id = newId & 65535;
        int[] map = new int[64];
        map[0] = 9;
        map[1] = 1;
        for (int t = 1; t <= 16; t++) {
            StringBuilder text = new StringBuilder();
            for (int s = 0; s < sectors(t); s++) {
                text.append("1".repeat(40)).append(code(8)).append(code(s ^ t ^ id / 256 ^ id % 256));
                text.append(code(s)).append(code(t)).append(code(id / 256)).append(code(id % 256));
                text.append("01010101".repeat(6)).append(data(new int[64])).append("01010101".repeat(7));
                map[2 * t + s / 8] |= 1 << s % 8;
            }
            while (text.length() < tracks[t].length) {
                text.append("01010101");
            }
            put(tracks[t], 0, text.toString());
        }
        map[18] &= ~3;
        System.arraycopy(name(a, b), 0, map, 40, 8);
        map[48] = id / 256;
        map[49] = id % 256;
        writeBlock(9, 0, map);
        counts[1]--;
        return done();
    }

    int mount(int newId) {
        id = newId & 65535;
        return done();
    }

    int save(int type, int a, int b) {
        List<Integer> file = tape;
        tape = new ArrayList<>();
        if (type < 1 || type > 9 || (a == 0 && b == 0)) {
            return -1;
        }
        try {
            saveFile(type, name(a, b), file);
            return done();
        } catch (Fault fault) {
            return told(fault);
        }
    }

    int load(int a, int b) {
        out = new ArrayList<>();
        try {
            open();
            List<Integer> bytes = new ArrayList<>();
            follow(walk(name(a, b)), bytes);
            out = bytes;
            done();
            return out.size();
        } catch (Fault fault) {
            told(fault);
            return -1;
        }
    }

    int scratch(int a, int b) {
        try {
            int[] map = open();
            Found found = walk(name(a, b));
            List<int[]> places = follow(found, new ArrayList<>());
            Arrays.fill(found.block, found.entry, found.entry + 12, 0);
            writeBlock(found.at[0], found.at[1], found.block);
            for (int[] at : places) {
                if (at[0] != 9) {
                    map[2 * at[0] + at[1] / 8] |= 1 << at[1] % 8;
                }
            }
            writeBlock(9, 0, map);
            status = new int[] {1, places.size(), 0};
            return 1;
        } catch (Fault fault) {
            return told(fault);
        }
    }

    int list() {
        out = new ArrayList<>();
        try {
            open();
            for (int[] block : walk(null).blocks) {
                for (int e = 2; e <= 50; e += 12) {
                    if (block[e] != 0) {
                        out.add(block[e]);
                        for (int i = 3; i < 12; i++) {
                            out.add(block[e + i]);
                        }
                    }
                }
            }
            done();
            return out.size();
        } catch (Fault fault) {
            told(fault);
            return -1;
        }
    }

    int info() {
        out = new ArrayList<>();
        try {
            int[] map = open();
            int free = 0;
            for (int t = 1; t <= 16; t++) {
                for (int s = 0; s < sectors(t) && t != 9; s++) {
                    free += free(map, t, s) ? 1 : 0;
                }
            }
            for (int i = 40; i < 50; i++) {
                out.add(map[i]);
            }
            out.add(free);
            done();
            return 11;
        } catch (Fault fault) {
            told(fault);
            return -1;
        }
    }

    int out(int i) {
        return i < 0 || i >= out.size() ? -1 : out.get(i);
    }

    int status(int what) {
        return what < 0 || what > 2 ? -1 : status[what];
    }

    int peek(int t, int i) {
        if (!isTrack(t) || i < 0 || i >= tracks[t].length / 8) {
            return -1;
        }
        int v = 0;
        for (int k = 0; k < 8; k++) {
            v = 2 * v + (tracks[t][8 * i + k] ? 1 : 0);
        }
        return v;
    }

    int poke(int t, int i, int v) {
        int before = peek(t, i);
        for (int k = 0; k < 8 && before >= 0; k++) {
            tracks[t][8 * i + k] = (v >> 7 - k & 1) == 1;
        }
        return before;
    }

    int stamp(int t, int i, int v) {
        if (peek(t, i) < 0) {
            return -1;
        }
        for (int k = 0; k < 32; k++) {
            tracks[t][(8 * i + k) % tracks[t].length] = (v >> 31 - k & 1) == 1;
        }
        return 1;
    }

    int turn(int t, int n) {
        if (!isTrack(t)) {
            return -1;
        }
        boolean[] before = tracks[t].clone();
        for (int i = 0; i < before.length; i++) {
            tracks[t][Math.floorMod((long) i + n, before.length)] = before[i];
        }
        return 1;
    }

    int syncs(int t) {
        return isTrack(t) ? starts(tracks[t]).size() : -1;
    }

    int read(int t, int s) {
        out = new ArrayList<>();
        try {
            for (int v : readBlock(t, s)) {
                out.add(v);
            }
            return 0;
        } catch (Fault fault) {
            return fault.number;
        }
    }

    int write(int t, int s) {
        int[] bytes = new int[64];
        for (int i = 0; i < 64 && i < tape.size(); i++) {
            bytes[i] = tape.get(i);
        }
        tape = new ArrayList<>();
        try {
            writeBlock(t, s, bytes);
            return 0;
        } catch (Fault fault) {
            return fault.number;
        }
    }

    int count(int what) {
        return what < 0 || what > 3 ? -1 : what == 3 ? tape.size() : counts[what];
    }
}
