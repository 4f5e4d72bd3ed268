/** Counts and prints answers that are not as due, and writes whole blocks for the tests. */
final class Check {
    private static int wrong = 0;

    private Check() {
    }

    static void due(String call, int got, int want) {
        if (got != want) {
            wrong++;
            StackTraceElement[] stack = new Throwable().getStackTrace();
            String place = "";
            for (StackTraceElement e : stack) {
                if (!e.getClassName().equals("Check")) {
                    place = e.getMethodName() + ":" + e.getLineNumber();
                    break;
                }
            }
            System.out.println(place + ": " + call + " answered " + got + ", due is " + want);
        }
    }

    static void status(BitDrive x, int number, int track, int sector) {
        due("status(0)", x.status(0), number);
        due("status(1)", x.status(1), track);
        due("status(2)", x.status(2), sector);
    }

    /** OUT is these bytes and no others. */
    static void out(BitDrive x, int... bytes) {
        for (int i = 0; i < bytes.length; i++) {
            due("out(" + i + ")", x.out(i), bytes[i]);
        }
        due("out(" + bytes.length + ")", x.out(bytes.length), -1);
    }

    /** Bytes i * 7 + seed on the TAPE. */
    static void tape(BitDrive x, int many, int seed) {
        int[] bytes = new int[(many + 19) / 20 * 20];
        for (int i = 0; i < bytes.length; i++) {
            bytes[i] = fileByte(i, seed);
        }
        tapeOf(x, many, bytes);
    }

    static int fileByte(int i, int seed) {
        return i * 7 + seed & 255;
    }

    private static void tapeOf(BitDrive x, int many, int[] bytes) {
        due("end(0)", x.end(0), 0);
        for (int i = 0; i < bytes.length; i += 20) {
            due("feed", x.feed(number(bytes, i), number(bytes, i + 4), number(bytes, i + 8),
                    number(bytes, i + 12), number(bytes, i + 16)), i + 20);
        }
        due("end", x.end(many), many);
    }

    private static int number(int[] bytes, int at) {
        return bytes[at] << 24 | bytes[at + 1] << 16 | bytes[at + 2] << 8 | bytes[at + 3];
    }

    static int[] block(BitDrive x, int track, int sector) {
        due("read(" + track + ", " + sector + ")", x.read(track, sector), 0);
        int[] bytes = new int[64];
        for (int i = 0; i < 64; i++) {
            bytes[i] = x.out(i);
        }
        return bytes;
    }

    /** Changes some bytes of a block on the disk: place, value, place, value. */
    static void change(BitDrive x, int track, int sector, int... changes) {
        int[] bytes = block(x, track, sector);
        for (int i = 0; i < changes.length; i += 2) {
            bytes[changes[i]] = changes[i + 1];
        }
        putBlock(x, track, sector, bytes);
    }

    static void putBlock(BitDrive x, int track, int sector, int... first) {
        tapeOf(x, 64, java.util.Arrays.copyOf(first, 80));
        due("write(" + track + ", " + sector + ")", x.write(track, sector), 0);
    }

    static void finish() {
        System.out.println(wrong == 0 ? "all answers are as due" : wrong + " answers are not as due");
        if (wrong != 0) {
            System.exit(1);
        }
    }
}
