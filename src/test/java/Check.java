/** Counts and prints answers that are not as due, and makes the tests' TAPES and blocks. */
final class Check {
    private static int wrong = 0;
    private static String sentence = "";

    private Check() {
    }

    /** The document's sentence that the calls from here on are held to. */
    static void says(String text) {
        sentence = text;
    }

    static void due(String call, int got, int want) {
        if (got != want) {
            wrong++;
            System.out.println(place() + ": " + call + " answered " + got + ", due is " + want
                    + (sentence.isEmpty() ? "" : " (\"" + sentence + "\")"));
        }
    }

    private static String place() {
        for (StackTraceElement e : new Throwable().getStackTrace()) {
            if (e.getClassName().endsWith("Test")) {
                return e.getMethodName() + ":" + e.getLineNumber();
            }
        }
        return "";
    }

    static void status(Drive x, int number, int track, int sector) {
        due("status(0)", x.status(0), number);
        due("status(1)", x.status(1), track);
        due("status(2)", x.status(2), sector);
    }

    /** OUT is these bytes and no others. */
    static void out(Drive x, int... bytes) {
        for (int i = 0; i < bytes.length; i++) {
            due("out(" + i + ")", x.out(i), bytes[i]);
        }
        due("out(" + bytes.length + ")", x.out(bytes.length), -1);
    }

    /** Bytes i * 7 + seed on the TAPE. */
    static void tape(Drive x, int many, int seed) {
        int[] bytes = new int[(many + 19) / 20 * 20];
        for (int i = 0; i < bytes.length; i++) {
            bytes[i] = fileByte(i, seed);
        }
        feedAll(x, bytes);
        due("end", x.end(many), many);
    }

    static int fileByte(int i, int seed) {
        return i * 7 + seed & 255;
    }

    private static void feedAll(Drive x, int[] bytes) {
        due("end(0)", x.end(0), 0);
        for (int i = 0; i < bytes.length; i += 20) {
            due("feed", x.feed(number(bytes, i), number(bytes, i + 4), number(bytes, i + 8),
                    number(bytes, i + 12), number(bytes, i + 16)), i + 20);
        }
    }

    static int number(int[] bytes, int at) {
        return bytes[at] << 24 | bytes[at + 1] << 16 | bytes[at + 2] << 8 | bytes[at + 3];
    }

    /** The bytes of a block, by 65 calls. */
    static int[] block(Drive x, int track, int sector) {
        due("read(" + track + ", " + sector + ")", x.read(track, sector), 0);
        int[] bytes = new int[64];
        for (int i = 0; i < 64; i++) {
            bytes[i] = x.out(i);
        }
        return bytes;
    }

    /** A block's first bytes are these, and its others 0. */
    static void blockIs(Drive x, int track, int sector, int... first) {
        int[] bytes = block(x, track, sector);
        for (int i = 0; i < 64; i++) {
            due("byte " + i + " of (" + track + ", " + sector + ")", bytes[i], i < first.length ? first[i] : 0);
        }
    }

    /** Changes some bytes of a block on the disk: place, value, place, value. */
    static void change(Drive x, int track, int sector, int... changes) {
        putBlock(x, track, sector, with(block(x, track, sector), changes));
    }

    /** A copy of some bytes with changes in it: place, value, place, value. */
    static int[] with(int[] bytes, int... changes) {
        int[] copy = bytes.clone();
        for (int i = 0; i < changes.length; i += 2) {
            copy[changes[i]] = changes[i + 1];
        }
        return copy;
    }

    /** Writes a block whose first bytes are these, the others 0. */
    static void putBlock(Drive x, int track, int sector, int... first) {
        feedAll(x, java.util.Arrays.copyOf(first, (first.length + 19) / 20 * 20));
        due("write(" + track + ", " + sector + ")", x.write(track, sector), 0);
    }

    /** The map of a disk just formatted. */
    static int[] newMap(int id, int a, int b) {
        int[] map = new int[64];
        map[0] = 9;
        map[1] = 1;
        for (int t = 1; t <= 16; t++) {
            map[2 * t] = t == 9 ? 252 : t <= 12 ? 255 : 127;
            map[2 * t + 1] = t <= 8 ? 1 : 0;
        }
        for (int i = 0; i < 4; i++) {
            map[40 + i] = a >>> 24 - 8 * i & 255;
            map[44 + i] = b >>> 24 - 8 * i & 255;
        }
        map[48] = id >> 8 & 255;
        map[49] = id & 255;
        return map;
    }

    static void finish() {
        System.out.println(wrong == 0 ? "all answers are as due" : wrong + " answers are not as due");
        if (wrong != 0) {
            System.exit(1);
        }
    }
}
