/** What the document's parts 2 to 4 say of blocks, chains and ERRORS. */
public final class DiskTest {
    public static void main(String[] args) {
        headerErrors();
        headerThatIsFirst();
        dataErrors();
        writtenBits();
        dataBehindTheLastSync();
        orderOfBlocks();
        chainOnTheDisk();
        directoryGrows();
        directoryIsFull();
        diskIsFull();
        directoryChains();
        fileChains();
        longFileChain();
        errorsWhileSaving();
        errorsWhileScratching();
        scratchOnTrackNine();
        mapKeepsItsBytes();
        Check.finish();
    }

    private static Drive formatted() {
        Drive x = new Drive();
        Check.due("format", x.format(5, 3, 4), 0);
        return x;
    }

    private static void headerErrors() {
        Drive x = formatted();
        Check.due("checksum 4", x.poke(1, 7, 0xF5), 0xE5);
        Check.due("read", x.read(1, 0), 27);
        Check.due("write", x.write(1, 0), 27);
        x.mount(6);
        Check.due("27 is ahead of 29", x.read(1, 0), 27);
        Check.due("read", x.read(1, 1), 29);
        Check.due("write", x.write(1, 1), 29);
        x.mount(0x0405);
        Check.due("other higher byte", x.read(1, 1), 29);
        x.mount(5);
        x.poke(1, 7, 0x05);
        Check.due("checksum is NO CODE", x.read(1, 0), 20);
        x.poke(1, 7, 0xE5);
        Check.due("read", x.read(1, 0), 0);
        // The header's bytes are of ten bits each from bit 40 on: each half in turn is NO CODE.
        for (int half = 0; half < 12; half++) {
            Drive y = formatted();
            y.turn(1, -40 - 5 * half);
            y.poke(1, 0, y.peek(1, 0) & 7);
            Check.due("half " + half + " is NO CODE", y.read(1, 0), 20);
            Check.due("half " + half + " is NO CODE", y.write(1, 0), 20);
        }
        Bits.lay(x, 1, Bits.ones(8480));
        Check.due("ones alone", x.read(1, 0), 21);
        Check.due("ones alone", x.write(1, 0), 21);
        Check.due("count", x.count(2), 9);
    }

    private static void headerThatIsFirst() {
        Drive x = formatted();
        int at = 114 + 8;
        x.poke(1, at, x.peek(1, at) ^ 4);
        Check.due("sector 1 has become 0", x.read(1, 1), 20);
        Check.due("the first one is right", x.read(1, 0), 0);
        x.turn(1, -8 * 114);
        Check.due("the first one is wrong", x.read(1, 0), 27);
        x.turn(1, 8 * 114);
        Check.due("the first one is right", x.read(1, 0), 0);
        int track = x.peek(2, 9);
        x.poke(2, 9, track ^ 0x30);
        Check.due("other track", x.read(2, 0), 20);
    }

    private static void dataErrors() {
        for (int half = 0; half < 132; half++) {
            Drive y = formatted();
            y.turn(1, -188 - 5 * half);
            y.poke(1, 0, y.peek(1, 0) & 7);
            Check.due("half " + half + " is NO CODE", y.read(1, 0), half < 2 ? 22 : 24);
        }
        Drive x = formatted();
        int first = x.poke(1, 24, 0);
        Check.due("no mark", x.read(1, 0), 22);
        x.poke(1, 24, first);
        int middle = x.poke(1, 60, 0);
        Check.due("NO CODE", x.read(1, 0), 24);
        x.poke(1, 60, middle);
        int sum = x.poke(1, 105, 0);
        Check.due("checksum is NO CODE", x.read(1, 0), 24);
        x.poke(1, 105, sum);
        Check.due("read", x.read(1, 0), 0);
        // Data begins at bit 188; bits 828 to 837 are the last byte, 838 to 847 the checksum.
        x.poke(1, 105, sum ^ 1);
        Check.due("checksum 1", x.read(1, 0), 23);
        Check.out(x);
        x.poke(1, 60, 0);
        Check.due("24 is ahead of 23", x.read(1, 0), 24);
        x.poke(1, 24, 0);
        Check.due("22 is ahead of 24", x.read(1, 0), 22);
        Check.due("a write mends them", x.write(1, 0), 0);
        Check.due("read", x.read(1, 0), 0);
        x.stamp(1, 18, 0);
        x.poke(1, 22, 0);
        x.poke(1, 23, x.peek(1, 23) & 0x0F);
        Check.due("the next sync is a header's", x.read(1, 0), 22);
    }

    private static void writtenBits() {
        for (int turn : new int[] {0, 13, 8480 - 900, 400, 77, -5000}) {
            String before = Bits.turned(Bits.track(1, 5), turn);
            for (int s = 0; s < 9; s += 4) {
                int sector = s;
                int[] bytes = {s, turn & 255, 0xFE, 0xDC, 0xBA, 0x98};
                Bits.due("write after turn " + turn, () -> {
                    Drive x = formatted();
                    x.turn(1, turn);
                    Check.putBlock(x, 1, sector, bytes);
                    return x;
                }, 1, Bits.over(before, turn + Bits.SECTOR * s + Bits.DATA, Bits.data(bytes)));
            }
        }
    }

    private static void dataBehindTheLastSync() {
        Drive x = formatted();
        Check.tape(x, 64, 1);
        Check.due("write", x.write(1, 3), 0);
        // The header of (1, 3) is from byte 347 on, and its DATA from the middle of byte 365 on:
        // the ring ends within the header, behind it, or within the first byte of the DATA.
        for (int turn : new int[] {-8 * 352, -8 * 360, -8 * 366}) {
            x.turn(1, turn);
            Check.due("read", x.read(1, 3), 0);
            Check.due("out", x.out(63), Check.fileByte(63, 1));
            x.turn(1, -turn);
        }
        Drive y = new Drive();
        y.format(5, 3, 4);
        Bits.lay(y, 1, Bits.over(Bits.zeros(8480), 0, Bits.ones(40) + Bits.header(1, 0, 5)));
        Check.due("syncs", y.syncs(1), 1);
        Check.due("the one sync is the next one", y.read(1, 0), 22);
    }

    private static void orderOfBlocks() {
        Drive x = threeFiles();
        int[] order = {8, 7, 6, 5, 4, 3, 2, 1, 10, 11, 12, 13, 14, 15, 16};
        int n = 0;
        for (int track : order) {
            for (int s = 0; s < Bits.sectors(track) && n < 120; s++) {
                if (x.calls() + 2 > Drive.MOST_CALLS) {
                    x = threeFiles();
                }
                Check.due("read", x.read(track, s), 0);
                Check.due("byte of (" + track + ", " + s + ")", x.out(2), Check.fileByte(n % 40 * 62, n / 40 + 1));
                n++;
            }
        }
    }

    private static Drive threeFiles() {
        Drive x = formatted();
        for (int file = 1; file <= 3; file++) {
            Check.tape(x, 2480, file);
            Check.due("save", x.save(1, file, 0), 0);
        }
        x.info();
        Check.due("out", x.out(10), 4);
        return x;
    }

    private static void chainOnTheDisk() {
        Drive x = formatted();
        Check.putBlock(x, 8, 1, 1, 2, 3);
        Check.change(x, 9, 0, 16, 0x82);
        Check.tape(x, 130, 0);
        Check.due("save", x.save(6, 0x01020304, 0x05060708), 0);
        int[] entry = Check.block(x, 9, 1);
        int[] due = {0, 0, 6, 8, 1, 3, 1, 2, 3, 4, 5, 6, 7, 8, 0};
        for (int i = 0; i < due.length; i++) {
            Check.due("entry byte " + i, entry[i], due[i]);
        }
        int[] first = Check.block(x, 8, 1);
        Check.due("link", first[0], 8);
        Check.due("link", first[1], 7);
        Check.due("byte", first[63], Check.fileByte(61, 0));
        int[] second = Check.block(x, 8, 7);
        Check.due("link", second[0], 8);
        Check.due("link", second[1], 8);
        int[] last = Check.block(x, 8, 8);
        Check.due("last", last[0], 0);
        Check.due("bytes", last[1], 6);
        Check.due("byte", last[7], Check.fileByte(129, 0));
        Check.due("rest", last[8], 0);
        Check.due("rest", last[63], 0);
        int[] map = Check.block(x, 9, 0);
        Check.due("map", map[16], 0);
        Check.due("map", map[17], 0);
    }

    private static void directoryGrows() {
        Drive x = formatted();
        Check.change(x, 9, 0, 18, 0xA8);
        for (int i = 1; i <= 5; i++) {
            Check.due("save", x.save(1, i, 0), 0);
        }
        int writes = x.count(1);
        Check.due("save", x.save(2, 6, 0), 0);
        Check.due("writes", x.count(1), writes + 4);
        Check.due("link", Check.block(x, 9, 1)[1], 3);
        int[] further = Check.block(x, 9, 3);
        Check.due("link", further[0], 0);
        Check.due("link", further[1], 0);
        Check.due("type", further[2], 2);
        Check.due("next entry", further[14], 0);
        Check.due("map", Check.block(x, 9, 0)[18], 0xA0);
        Check.due("save", x.save(2, 6, 0), 63);
        Check.status(x, 63, 9, 3);
        Check.due("scratch", x.scratch(2, 0), 1);
        Check.due("save", x.save(7, 8, 0), 0);
        Check.due("type in the hole", Check.block(x, 9, 1)[14], 7);
        Check.due("scratch", x.scratch(6, 0), 1);
        Check.due("track 9 stays", Check.block(x, 9, 0)[18], 0xA0);
        Check.due("link stays", Check.block(x, 9, 1)[1], 3);
        growsBehindHoles();
        growsAtOnce();
    }

    private static void growsBehindHoles() {
        Drive x = formatted();
        for (int i = 1; i <= 10; i++) {
            Check.due("save", x.save(1, i, 0), 0);
        }
        Check.due("scratch", x.scratch(2, 0), 1);
        Check.due("into the hole", x.save(1, 2, 0), 0);
        Check.due("save", x.save(1, 11, 0), 0);
        int[] further = Check.block(x, 9, 3);
        Check.due("link", further[0], 0);
        Check.due("link", further[1], 0);
        Check.due("next entry", further[14], 0);
        Check.due("list", x.list(), 110);
    }

    private static void growsAtOnce() {
        Drive x = formatted();
        int[] full = new int[64];
        for (int e = 2; e <= 50; e += 12) {
            full[e] = 1;
            full[e + 4] = e;
        }
        Check.putBlock(x, 9, 1, full);
        Check.change(x, 9, 0, 18, 0x41);
        Check.due("save", x.save(1, 1, 0), 0);
        Check.due("the map's own block was FREE", x.list(), -1);
        Check.change(x, 9, 0, 18, 0x40);
        Check.putBlock(x, 9, 1, full);
        Check.due("save", x.save(1, 1, 0), 0);
        Check.due("link", Check.block(x, 9, 1)[0], 9);
        Check.due("link", Check.block(x, 9, 1)[1], 6);
        Check.due("list", x.list(), 60);
    }

    private static void directoryIsFull() {
        Drive x = formatted();
        for (int i = 1; i <= 35; i++) {
            Check.due("save", x.save(1, i, 0), 0);
        }
        int writes = x.count(1);
        Check.due("save", x.save(1, 36, 0), 72);
        Check.status(x, 72, 0, 0);
        Check.due("with 7 blocks, whatever is FREE", freeOnNine(x, 255).save(1, 36, 0), 72);
        Check.due("63 is ahead of 72", x.save(1, 35, 0), 63);
        Check.due("writes", x.count(1), writes + 1);
        Check.due("scratch", x.scratch(20, 0), 1);
        Check.due("save", x.save(1, 36, 0), 0);
        Drive y = freeOnNine(formatted(), 0);
        for (int i = 1; i <= 5; i++) {
            Check.due("save", y.save(1, i, 0), 0);
        }
        Check.due("none is FREE", y.save(1, 6, 0), 72);
        Check.status(y, 72, 0, 0);
    }

    private static Drive freeOnNine(Drive x, int bits) {
        Check.change(x, 9, 0, 18, bits);
        return x;
    }

    private static void diskIsFull() {
        Drive x = formatted();
        int[] map = new int[64];
        for (int t = 1; t <= 15; t++) {
            map[2 * t] = t == 9 ? 252 : 0;
            map[2 * t + 1] = t == 9 ? 0 : 254;
        }
        map[32] = 127;
        Check.putBlock(x, 9, 0, map);
        Check.due("info", x.info(), 11);
        Check.due("FREE ones that there are", x.out(10), 7);
        Check.tape(x, 435, 0);
        Check.due("eight blocks", x.save(1, 1, 0), 72);
        Check.status(x, 72, 0, 0);
        Check.due("list", x.list(), 0);
        Check.tape(x, 434, 0);
        Check.due("seven blocks", x.save(1, 1, 0), 0);
        Check.due("load", x.load(1, 0), 434);
        Check.due("none is left", x.save(1, 2, 0), 72);
        Check.due("scratch", x.scratch(1, 0), 1);
        Check.status(x, 1, 7, 0);
        Check.due("save", x.save(1, 2, 0), 0);
    }

    private static void directoryChains() {
        Drive x = formatted();
        x.save(1, 1, 0);
        Check.change(x, 9, 1, 0, 0, 1, 5);
        Check.due("found ahead of the link", x.load(1, 0), 0);
        Check.due("track 0", x.load(2, 0), -1);
        Check.status(x, 66, 9, 1);
        Check.due("list", x.list(), -1);
        Check.status(x, 66, 9, 1);
        Check.out(x);
        Check.change(x, 9, 1, 0, 9, 1, 8);
        Check.due("save", x.save(1, 3, 0), 66);
        Check.due("scratch", x.scratch(3, 0), 66);
        Check.status(x, 66, 9, 1);
        Check.change(x, 9, 1, 0, 16, 1, 0);
        Check.due("sector 0 is a block", x.list(), 10);
        Check.change(x, 16, 0, 0, 0, 1, 1);
        Check.due("list", x.list(), -1);
        Check.status(x, 66, 16, 0);
        Check.change(x, 9, 1, 0, 16, 1, 6);
        Check.due("save", x.save(1, 3, 0), 0);
        Check.due("list", x.list(), 20);
        Check.change(x, 16, 6, 0, 9, 1, 1);
        int reads = x.count(0);
        Check.due("a ring", x.list(), -1);
        Check.status(x, 66, 9, 1);
        Check.due("reads", x.count(0), reads + 8);
        Check.due("a ring", x.load(4, 0), -1);
        Check.status(x, 66, 9, 1);
        for (int s = 1; s <= 6; s++) {
            Check.putBlock(x, 9, s, 9, s + 1);
        }
        Check.putBlock(x, 9, 7, 0, 0, 4, 1, 0, 1, 0, 0, 0, 9);
        Check.due("seven blocks", x.list(), 10);
        Check.due("scratch", x.scratch(9, 0), 1);
        Check.putBlock(x, 9, 7, 1, 1);
        Check.due("an eighth", x.list(), -1);
        Check.status(x, 66, 9, 7);
        x.poke(9, 3 * 114 + 30, 0);
        Check.due("24 in a block", x.list(), -1);
        Check.status(x, 24, 9, 3);
    }

    private static void fileChains() {
        Drive x = formatted();
        Check.tape(x, 130, 0);
        x.save(1, 1, 0);
        Check.change(x, 8, 2, 1, 62);
        Check.due("62 bytes", x.load(1, 0), 186);
        Check.change(x, 8, 2, 1, 63);
        Check.due("63 bytes", x.load(1, 0), -1);
        Check.status(x, 66, 8, 2);
        Check.out(x);
        Check.due("scratch", x.scratch(1, 0), 66);
        Check.status(x, 66, 8, 2);
        Check.change(x, 8, 1, 0, 17);
        Check.due("no block", x.load(1, 0), -1);
        Check.status(x, 66, 8, 1);
        Check.change(x, 8, 1, 0, 8, 1, 9);
        Check.due("no sector", x.load(1, 0), -1);
        Check.status(x, 66, 8, 1);
        Check.change(x, 8, 1, 0, 8, 1, 0);
        int reads = x.count(0);
        Check.due("a ring", x.load(1, 0), -1);
        Check.status(x, 66, 8, 1);
        Check.due("reads", x.count(0), reads + 42);
        wrongEntries();
    }

    private static void wrongEntries() {
        Drive x = formatted();
        x.save(1, 1, 0);
        Check.change(x, 9, 1, 3, 0);
        Check.due("no first block", x.load(1, 0), -1);
        Check.status(x, 66, 9, 1);
        Check.change(x, 9, 1, 3, 8, 4, 3, 2, 200);
        Check.due("an empty block", x.load(1, 0), 0);
        x.list();
        Check.due("type on the disk", x.out(0), 200);
        x.poke(8, 3 * 114 + 6, 0);
        Check.due("20 in a block", x.load(1, 0), -1);
        Check.status(x, 20, 8, 3);
    }

    private static void longFileChain() {
        Drive x = formatted();
        Check.tape(x, 2480, 0);
        Check.due("save", x.save(1, 1, 0), 0);
        Check.due("forty blocks", x.load(1, 0), 2480);
        Check.change(x, 4, 3, 0, 4, 1, 4);
        Check.due("a further one", x.load(1, 0), -1);
        Check.status(x, 66, 4, 3);
        Check.due("scratch", x.scratch(1, 0), 66);
        Check.change(x, 4, 3, 0, 0, 1, 1);
        Check.change(x, 9, 1, 5, 3);
        Check.due("scratch", x.scratch(1, 0), 1);
        Check.status(x, 1, 40, 0);
    }

    private static void errorsWhileSaving() {
        Drive x = formatted();
        x.poke(8, 114 + 6, 0);
        Check.tape(x, 130, 4);
        Check.due("save", x.save(1, 1, 0), 20);
        Check.status(x, 20, 8, 1);
        Check.due("what was written stays", Check.block(x, 8, 0)[2], 4);
        Check.due("count", x.count(1), 1);
        Check.due("count", x.count(2), 1);
        Check.due("count", x.count(3), 0);
        Check.due("list", x.list(), 0);
        x.info();
        Check.due("the map stays", x.out(10), 124);
        x.format(5, 3, 4);
        x.poke(9, 2 * 114 + 6, 0);
        for (int i = 1; i <= 5; i++) {
            Check.due("save", x.save(1, i, 0), 0);
        }
        Check.due("save", x.save(1, 6, 0), 20);
        Check.status(x, 20, 9, 2);
        Check.due("the file's block stays", x.read(8, 5), 0);
        Check.due("no link", Check.block(x, 9, 1)[0], 0);
        Check.due("list", x.list(), 50);
    }

    private static void errorsWhileScratching() {
        Drive x = formatted();
        Check.tape(x, 130, 4);
        x.save(1, 1, 0);
        int v = x.poke(8, 114 + 30, 0);
        Check.due("scratch", x.scratch(1, 0), 24);
        Check.status(x, 24, 8, 1);
        Check.due("list", x.list(), 10);
        x.poke(8, 114 + 30, v);
        Check.due("scratch", x.scratch(1, 0), 1);
        Check.status(x, 1, 3, 0);
    }

    private static void scratchOnTrackNine() {
        Drive x = formatted();
        Check.tape(x, 70, 4);
        x.save(1, 1, 0);
        Check.change(x, 8, 0, 0, 9, 1, 5);
        Check.change(x, 9, 0, 18, 0);
        Check.due("scratch", x.scratch(1, 0), 1);
        Check.status(x, 1, 2, 0);
        int[] map = Check.block(x, 9, 0);
        Check.due("track 9 stays", map[18], 0);
        Check.due("(8, 1) stays", map[16], 0xFD);
    }

    private static void mapKeepsItsBytes() {
        Drive x = formatted();
        Check.change(x, 9, 0, 0, 77, 35, 3, 63, 99, 19, 255);
        Check.change(x, 9, 1, 62, 5, 63, 6);
        Check.due("save", x.save(1, 1, 0), 0);
        int[] map = Check.block(x, 9, 0);
        Check.due("byte 0", map[0], 77);
        Check.due("byte 19", map[19], 255);
        Check.due("byte 35", map[35], 3);
        Check.due("byte 63", map[63], 99);
        Check.due("byte 16", map[16], 0xFE);
        Check.due("byte 62", Check.block(x, 9, 1)[62], 5);
        Check.due("byte 63", Check.block(x, 9, 1)[63], 6);
    }
}
