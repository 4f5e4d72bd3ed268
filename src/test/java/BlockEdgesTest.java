/** The edges that the document's part 2 and its promises 18 to 20 name, a sentence at a time. */
public final class BlockEdgesTest {
    private static final int LOW = Integer.MIN_VALUE;
    private static final int HIGH = Integer.MAX_VALUE;
    private static final int ID = 0x1234;
    private static final int RING = 8480;

    public static void main(String[] args) {
        noSync();
        noHeader();
        headerBehindNoSync();
        headerWithoutCode();
        headerOfAnotherBlock();
        firstHeaderCounts();
        wrongHeaderChecksum();
        anotherId();
        nextSyncIsTheFirstOneAgain();
        oneSyncAlone();
        nextSyncIsNoData();
        dataOfNoCode();
        dataChecksumIsLast();
        writtenPlace();
        writtenRoundTheRing();
        writeLooksAtNoData();
        writeWithErrorChangesNothing();
        readOfNoBlock();
        readWithoutId();
        readLeavesStatus();
        readEmptiesOut();
        writeTakesSixtyFourBytes();
        writeEmptiesTheTape();
        writeOfNoBlock();
        writeLeavesStatusAndOut();
        countOfReadsAndWrites();
        countOfErrors();
        countOfTheTape();
        countOfNothing();
        Check.finish();
    }

    private static Drive formatted() {
        Drive x = new Drive();
        Check.due("format", x.format(ID, 1, 2), 0);
        return x;
    }

    private static Drive laid(String ring) {
        Drive x = new Drive();
        Check.due("mount", x.mount(ID), 0);
        Bits.lay(x, 3, ring);
        return x;
    }

    /** A track 3 of bits 0 with these bits in it. */
    private static String ring(int at, String bits) {
        return Bits.over(Bits.zeros(RING), at, bits);
    }

    private static void both(Drive x, String what, int track, int sector, int error) {
        Check.due("read: " + what, x.read(track, sector), error);
        Check.due("write: " + what, x.write(track, sector), error);
    }

    private static void noSync() {
        Check.says("error 21, if track t has no sync");
        Drive x = new Drive();
        x.mount(ID);
        both(x, "all 0", 3, 0, 21);
        both(x, "all 0", 16, 6, 21);
        both(laid(Bits.ones(RING)), "all 1", 3, 0, 21);
        both(laid(ring(50, Bits.ones(9) + Bits.header(3, 0, ID))), "nine ones", 3, 0, 21);
        Drive y = formatted();
        Bits.lay(y, 3, Bits.zeros(RING));
        both(y, "another track has syncs", 3, 0, 21);
        Check.due("another track", y.read(4, 0), 0);
    }

    private static void noHeader() {
        Check.says("error 20 if there is none");
        both(laid(ring(50, Bits.ones(10))), "a sync alone", 3, 0, 20);
        both(laid(ring(50, Bits.ones(40) + Bits.data())), "DATA alone", 3, 0, 20);
        Drive x = laid(ring(0, Bits.sector(3, 0, ID) + Bits.sector(3, 8, ID)));
        Check.due("read", x.read(3, 0), 0);
        Check.due("read", x.read(3, 8), 0);
        for (int s = 1; s < 8; s++) {
            both(x, "sector " + s, 3, s, 20);
        }
    }

    private static void headerBehindNoSync() {
        Check.says("A HEADER is what is coded behind a sync");
        for (int at : new int[] {0, 1, 8, 500, RING - 1}) {
            for (int ones = 0; ones <= 10; ones++) {
                String ring = ring(at - ones, Bits.ones(ones) + Bits.header(3, 1, ID) + Bits.gap(6) + Bits.ones(40)
                        + Bits.data(5) + Bits.gap(1));
                both(laid(ring), ones + " ones ahead of a header at " + at, 3, 1, ones < 10 ? 20 : 0);
            }
        }
    }

    private static void headerWithoutCode() {
        Check.says("none of its six bytes being NO CODE");
        for (int half = 0; half < 12; half++) {
            for (String five : new String[] {"00000", "00100", "11111"}) {
                Drive x = laid(Bits.over(twoHeaders(Bits.header(3, 1, ID)), Bits.HEADER + 5 * half, five));
                Check.due("half " + half + " is " + five, x.read(3, 1), 0);
                Check.due("the header behind it counts", x.out(0), 22);
                Drive y = laid(Bits.over(ring(0, Bits.sector(3, 1, ID)), Bits.HEADER + 5 * half, five));
                both(y, "half " + half + " is " + five, 3, 1, 20);
            }
        }
    }

    /** Two sectors, the first with that header and DATA of 11, the second with that of (3, 1) and 22. */
    private static String twoHeaders(String header) {
        return Bits.over(ring(0, Bits.sector(3, 1, ID, 11) + Bits.sector(3, 1, ID, 22)), Bits.HEADER, header);
    }

    private static void headerOfAnotherBlock() {
        Check.says("with that sector and track");
        Drive x = laid(twoHeaders(Bits.header(3, 2, ID)));
        Check.due("another sector", x.read(3, 1), 0);
        Check.due("out(0)", x.out(0), 22);
        Check.due("that sector", x.read(3, 2), 0);
        Check.due("out(0)", x.out(0), 11);
        Drive y = laid(twoHeaders(Bits.header(4, 1, ID)));
        Check.due("another track", y.read(3, 1), 0);
        Check.due("out(0)", y.out(0), 22);
        Check.due("no such block there", y.read(4, 1), 21);
        Drive z = laid(twoHeaders(Bits.coded(8, 99, 2, 3, 1, 1)));
        Check.due("another one's checksum", z.read(3, 1), 0);
        Check.due("its own", z.read(3, 2), 27);
        for (int bit = 1; bit < 256; bit *= 2) {
            both(laid(ring(0, Bits.sector(3, 1 ^ bit, ID))), "sector " + (1 ^ bit), 3, 1, 20);
            both(laid(ring(0, Bits.sector(3 ^ bit, 1, ID))), "track " + (3 ^ bit), 3, 1, 20);
        }
    }

    private static void firstHeaderCounts() {
        Check.says("The first sync behind which there is a header");
        Drive x = laid(twoHeaders(Bits.header(3, 1, ID)));
        Check.due("read", x.read(3, 1), 0);
        Check.due("out(0)", x.out(0), 11);
        Check.putBlock(x, 3, 1, 33);
        Check.due("turn", x.turn(3, -Bits.SECTOR), 1);
        Check.due("read", x.read(3, 1), 0);
        Check.due("the other one was not written", x.out(0), 22);
        Check.due("turn", x.turn(3, Bits.SECTOR), 1);
        Check.due("read", x.read(3, 1), 0);
        Check.due("out(0)", x.out(0), 33);
        both(laid(twoHeaders(Bits.coded(8, 0, 1, 3, 0x12, 0x34))), "27, though a right one is behind", 3, 1, 27);
        both(laid(twoHeaders(Bits.header(3, 1, ID + 1))), "29, though a right one is behind", 3, 1, 29);
    }

    private static void wrongHeaderChecksum() {
        Check.says("27 if its checksum is wrong");
        for (int bit = 1; bit < 256; bit *= 2) {
            int right = 1 ^ 3 ^ 0x12 ^ 0x34;
            String head = Bits.coded(8, right ^ bit, 1, 3, 0x12, 0x34);
            both(laid(Bits.over(ring(0, Bits.sector(3, 1, ID)), Bits.HEADER, head)), "bit " + bit, 3, 1, 27);
            String other = Bits.coded(8, right, 1, 3, 0x12, 0x34 ^ bit);
            both(laid(Bits.over(ring(0, Bits.sector(3, 1, ID)), Bits.HEADER, other)), "27 is ahead of 29", 3, 1, 27);
        }
    }

    private static void anotherId() {
        Check.says("29 if its ID is not the ID AT HAND");
        Drive x = formatted();
        for (int bit = 1; bit < 0x10000; bit *= 2) {
            x.mount(ID ^ bit);
            both(x, "mounted " + (ID ^ bit), 3, 1, 29);
        }
        x.mount(0x3412);
        both(x, "bytes the other way round", 3, 1, 29);
        x.mount(0x10000 | ID);
        both(x, "bits above the lowest 16", 3, 1, 0);
        Drive y = formatted();
        y.mount(ID + 1);
        Bits.put(y, 1, Bits.DATA, "00000");
        Check.due("29 is ahead of 22", y.read(1, 0), 29);
    }

    private static void nextSyncIsTheFirstOneAgain() {
        Check.says("then what is behind the next sync (the first one again behind the last one)");
        String ring = ring(RING - 200, Bits.ones(40) + Bits.header(3, 1, ID));
        ring = Bits.over(ring, 100, Bits.ones(40) + Bits.data(4, 5, 6));
        Drive x = laid(ring);
        Check.due("the header is behind the last sync", x.read(3, 1), 0);
        Check.out(x, java.util.Arrays.copyOf(new int[] {4, 5, 6}, 64));
        ring = Bits.over(ring, 10, Bits.ones(10) + "01010");
        Check.due("another sync is the first one", laid(ring).read(3, 1), 22);
    }

    private static void oneSyncAlone() {
        Check.says("the first one again behind the last one");
        Drive x = laid(ring(300, Bits.ones(40) + Bits.header(3, 1, ID)));
        Check.due("a header's sync alone", x.syncs(3), 1);
        Check.due("behind it is no DATA", x.read(3, 1), 22);
        Check.due("write", x.write(3, 1), 0);
        Check.due("read", x.read(3, 1), 0);
    }

    private static void nextSyncIsNoData() {
        Check.says("22, if that is no DATA (its first byte is another one, or NO CODE)");
        String ring = ring(0, Bits.sector(3, 1, ID, 5) + Bits.sector(3, 2, ID, 6));
        Check.due("a sync within the gap", laid(Bits.over(ring, 110, Bits.ones(10))).read(3, 1), 22);
        Check.due("nine ones within the gap", laid(Bits.over(ring, 110, "0" + Bits.ones(9) + "0")).read(3, 1), 0);
        Check.due("a header is next", laid(Bits.over(ring, 140, Bits.zeros(40))).read(3, 1), 22);
        for (String five : new String[] {"00000", "00111", "01000", "01100"}) {
            Check.due("first half " + five, laid(Bits.over(ring, Bits.DATA, five)).read(3, 1), 22);
        }
        for (String five : new String[] {"00000", "11111", "10001"}) {
            Check.due("second half " + five, laid(Bits.over(ring, Bits.DATA + 5, five)).read(3, 1), 22);
        }
        String both = Bits.over(Bits.over(ring, Bits.DATA, Bits.coded(6)), Bits.DATA + 300, "00000");
        Check.due("22 is ahead of 24", laid(both).read(3, 1), 22);
        both = Bits.over(Bits.over(ring, Bits.DATA, Bits.coded(6)), Bits.DATA + 650, Bits.coded(99));
        Check.due("22 is ahead of 23", laid(both).read(3, 1), 22);
    }

    private static void dataOfNoCode() {
        Check.says("24, if any of the other 65 bytes is NO CODE");
        String ring = ring(0, Bits.sector(3, 1, ID, 5) + Bits.sector(3, 2, ID, 6));
        for (int half = 2; half < 132; half++) {
            Drive x = laid(Bits.over(ring, Bits.DATA + 5 * half, "00000"));
            Check.due("half " + half, x.read(3, 1), 24);
            Check.due("OUT is empty", x.out(0), -1);
        }
        Check.due("what is behind DATA is free", laid(Bits.over(ring, Bits.DATA + 660, "00000")).read(3, 1), 0);
        String both = Bits.over(Bits.over(ring, Bits.DATA + 650, "00000"), Bits.DATA + 10, Bits.coded(99));
        Check.due("24 is ahead of 23", laid(both).read(3, 1), 24);
    }

    private static void dataChecksumIsLast() {
        Check.says("23, if its checksum is wrong");
        String ring = ring(0, Bits.sector(3, 1, ID, 5, 9));
        for (int bit = 1; bit < 256; bit *= 2) {
            int right = 5 ^ 9;
            Drive x = laid(Bits.over(ring, Bits.DATA + 650, Bits.coded(right ^ bit)));
            Check.due("bit " + bit, x.read(3, 1), 23);
            Check.due("OUT is empty", x.out(0), -1);
            Check.due("a byte's bit " + bit, laid(Bits.over(ring, Bits.DATA + 640, Bits.coded(bit))).read(3, 1), 23);
        }
    }

    private static void writtenPlace() {
        Check.says("from 108 bits behind the place where the header begins on (round the ring) come 40 bits 1, "
                + "the DATA coded (660 bits), and 8 bits 01010101 (85)");
        int[] bytes = new int[64];
        for (int i = 0; i < 64; i++) {
            bytes[i] = 255 - 3 * i;
        }
        for (String ground : new String[] {"0", "10", "110"}) {
            String ring = ground.repeat(RING / ground.length() + 1).substring(0, RING);
            ring = Bits.over(ring, 1003, "0" + Bits.ones(12) + Bits.header(3, 1, ID));
            String before = ring;
            String due = Bits.over(ring, 1016 + 108, Bits.ones(40) + Bits.data(bytes) + "01010101");
            Bits.due("write over " + ground, () -> {
                Drive x = laid(before);
                Check.putBlock(x, 3, 1, bytes);
                return x;
            }, 3, due);
        }
    }

    private static void writtenRoundTheRing() {
        Check.says("from 108 bits behind the place where the header begins on (round the ring)");
        for (int back : new int[] {0, 1, 59, 60, 61, 107, 108, 109, 147, 148, 149, 155, 500, 807, 808, 809, 815, 816}) {
            String ring = ring(RING - back - 40, Bits.ones(40) + Bits.header(3, 1, ID));
            String due = Bits.over(ring, RING - back + 108, Bits.ones(40) + Bits.data(8, 9, 10) + "01010101");
            Bits.due("write, the header being " + back + " bits ahead of the end", () -> {
                Drive x = laid(ring);
                Check.putBlock(x, 3, 1, 8, 9, 10);
                return x;
            }, 3, due);
            Drive x = laid(ring);
            Check.putBlock(x, 3, 1, 8, 9, 10);
            Check.due("read", x.read(3, 1), 0);
            Check.due("out(2)", x.out(2), 10);
        }
        for (int t : new int[] {9, 12, 13, 16}) {
            for (int from = 0; from < Bits.SECTOR; from += 57) {
                Drive x = formatted();
                x.turn(t, -2 * Bits.SECTOR - from);
                Check.putBlock(x, t, 2, from & 255, 77);
                Check.due("read", x.read(t, 2), 0);
                Check.due("out(0)", x.out(0), from & 255);
                Check.due("out(1)", x.out(1), 77);
                for (int s = 0; s < Bits.sectors(t); s++) {
                    Check.due("the others stay", x.read(t, s), 0);
                }
            }
        }
    }

    private static void writeLooksAtNoData() {
        Check.says("TO WRITE 64 bytes: it is sought");
        for (String wrong : new String[] {Bits.coded(6), "00000", Bits.zeros(660)}) {
            Drive x = laid(Bits.over(ring(0, Bits.sector(3, 1, ID, 5)), Bits.DATA, wrong));
            Check.due("read", x.read(3, 1), 22);
            Check.due("write", x.write(3, 1), 0);
            Check.due("read", x.read(3, 1), 0);
        }
    }

    private static void writeWithErrorChangesNothing() {
        Check.says("or its error (74, 66: no block; 20, 21, 27, 29)");
        String wrong = Bits.over(Bits.track(3, ID), Bits.HEADER, Bits.coded(8, 0, 0, 3, 0x12, 0x34));
        Bits.due("writes with errors", () -> {
            Drive x = laid(wrong);
            x.feed(-1, -1, -1, -1, -1);
            Check.due("write", x.write(3, 0), 27);
            x.feed(-1, -1, -1, -1, -1);
            Check.due("write", x.write(3, 9), 66);
            x.mount(ID + 1);
            x.feed(-1, -1, -1, -1, -1);
            Check.due("write", x.write(3, 1), 29);
            return x;
        }, 3, wrong);
    }

    private static void readOfNoBlock() {
        Check.says("(20 to 29; 74, 66: no block)");
        int[][] none = {{0, 0}, {17, 0}, {-1, 0}, {LOW, 0}, {HIGH, 0}, {0, LOW}, {1, LOW}, {1, HIGH}, {LOW, LOW},
            {HIGH, HIGH}, {9, 8}, {13, 7}, {1, 256}, {257, 1}};
        Drive x = formatted();
        for (int[] at : none) {
            x.info();
            Check.due("read(" + at[0] + ", " + at[1] + ")", x.read(at[0], at[1]), 66);
            Check.due("OUT is empty", x.out(0), -1);
        }
        Drive y = new Drive();
        y.mount(1);
        Check.due("66 is ahead of 21", y.read(1, 9), 66);
        Check.due("66 is ahead of 21", y.write(1, 9), 66);
        Check.due("read", y.read(1, 8), 21);
    }

    private static void readWithoutId() {
        Check.says("74 no ID is at hand (told at 0, 0; ahead of all)");
        Drive x = new Drive();
        both(x, "a block", 1, 0, 74);
        both(x, "no block", 0, 0, 74);
        both(x, "no block", 17, LOW, 74);
        Check.status(x, 0, 0, 0);
        Check.due("it is no error of 20 to 29", x.count(2), 0);
        Bits.lay(x, 3, ring(0, Bits.sector(3, 1, 0)));
        both(x, "an ID of 0 on the track is no ID at hand", 3, 1, 74);
        x.mount(0);
        both(x, "mounted", 3, 1, 0);
    }

    private static void readLeavesStatus() {
        Check.says("STATUS stays.");
        Drive x = formatted();
        Check.due("load", x.load(1, 1), -1);
        Check.due("read", x.read(1, 1), 0);
        Check.status(x, 62, 0, 0);
        x.save(1, 1, 1);
        x.scratch(1, 1);
        x.mount(ID + 1);
        Check.due("read", x.read(1, 1), 29);
        Check.status(x, 0, 0, 0);
        x.mount(ID);
        x.save(1, 1, 1);
        x.scratch(1, 1);
        Check.due("read", x.read(1, 9), 66);
        Check.due("read", x.read(9, 1), 0);
        Check.status(x, 1, 1, 0);
        Drive y = new Drive();
        y.info();
        Check.due("read", y.read(1, 1), 74);
        Check.due("write", y.write(1, 1), 74);
        Check.status(y, 74, 0, 0);
    }

    private static void readEmptiesOut() {
        Check.says("byte i of it is in OUT then (64 bytes; empty with an error)");
        Drive x = formatted();
        Check.putBlock(x, 2, 2, 1, 2, 3);
        Check.due("info", x.info(), 11);
        Check.due("read", x.read(2, 2), 0);
        Check.out(x, java.util.Arrays.copyOf(new int[] {1, 2, 3}, 64));
        Check.due("read", x.read(2, 9), 66);
        Check.out(x);
        x.read(2, 2);
        Bits.put(x, 2, 2 * Bits.SECTOR + Bits.DATA + 640, "00000");
        Check.due("read", x.read(2, 2), 24);
        Check.out(x);
        x.read(2, 1);
        Bits.put(x, 2, 2 * Bits.SECTOR + Bits.DATA + 640, Bits.coded(9));
        Check.due("read", x.read(2, 2), 23);
        Check.out(x);
        x.read(2, 1);
        x.mount(1);
        Check.due("read", x.read(2, 1), 29);
        Check.out(x);
    }

    private static void writeTakesSixtyFourBytes() {
        Check.says("the TAPE's first 64 bytes (0 for those that it lacks; it is empty then in any case)");
        for (int many : new int[] {0, 1, 20, 63, 64, 65, 80, 100, 1000, 2480}) {
            Drive x = formatted();
            Check.putBlock(x, 4, 4, filled());
            Check.tape(x, many, 3);
            Check.due("write", x.write(4, 4), 0);
            Check.due("the TAPE is empty", x.count(3), 0);
            Check.due("read", x.read(4, 4), 0);
            for (int i = 0; i < 64; i++) {
                Check.due("byte " + i + " of " + many, x.out(i), i < many ? Check.fileByte(i, 3) : 0);
            }
            Check.due("end of OUT", x.out(64), -1);
        }
        Drive x = formatted();
        Check.tape(x, 64, 3);
        x.end(10);
        Check.due("write", x.write(4, 4), 0);
        Check.due("read", x.read(4, 4), 0);
        Check.due("the last one that end kept", x.out(9), Check.fileByte(9, 3));
        Check.due("what end took away is lacking", x.out(10), 0);
        Check.due("what end took away is lacking", x.out(63), 0);
    }

    private static int[] filled() {
        int[] bytes = new int[64];
        java.util.Arrays.fill(bytes, 0xAA);
        return bytes;
    }

    private static void writeEmptiesTheTape() {
        Check.says("it is empty then in any case");
        Drive x = new Drive();
        Check.tape(x, 30, 1);
        Check.due("write", x.write(1, 1), 74);
        Check.due("count(3)", x.count(3), 0);
        x.mount(ID);
        Check.tape(x, 30, 1);
        Check.due("write", x.write(1, 1), 21);
        Check.due("count(3)", x.count(3), 0);
        Check.tape(x, 30, 1);
        Check.due("write", x.write(1, 9), 66);
        Check.due("count(3)", x.count(3), 0);
        x.format(ID, 1, 1);
        Check.tape(x, 100, 1);
        Check.due("write", x.write(1, 1), 0);
        Check.due("count(3)", x.count(3), 0);
        x.mount(ID + 1);
        Check.tape(x, 30, 1);
        Check.due("write", x.write(1, 1), 29);
        Check.due("count(3)", x.count(3), 0);
        x.mount(ID);
        Check.due("an empty TAPE", x.write(1, 1), 0);
        Check.blockIs(x, 1, 1);
    }

    private static void writeOfNoBlock() {
        Check.says("or its error (74, 66: no block");
        Drive x = formatted();
        int[][] none = {{0, 0}, {17, 0}, {-1, 0}, {LOW, 0}, {HIGH, 0}, {1, -1}, {1, 9}, {8, 9}, {9, 8}, {12, 8},
            {13, 7}, {16, 7}, {1, LOW}, {1, HIGH}, {HIGH, HIGH}, {257, 1}, {1, 256}};
        for (int[] at : none) {
            Check.due("write(" + at[0] + ", " + at[1] + ")", x.write(at[0], at[1]), 66);
        }
        Check.due("none was written", x.count(1), 0);
        Check.due("none had an error of 20 to 29", x.count(2), 0);
    }

    private static void writeLeavesStatusAndOut() {
        Check.says("STATUS stays.");
        Drive x = formatted();
        x.load(1, 1);
        x.read(9, 0);
        x.feed(1, 2, 3, 4, 5);
        Check.due("write", x.write(1, 1), 0);
        Check.status(x, 62, 0, 0);
        Check.due("OUT stays", x.out(0), 9);
        Check.due("OUT stays", x.out(63), 0);
        Check.due("write", x.write(1, 9), 66);
        x.poke(1, 6, 0);
        Check.due("write", x.write(1, 0), 20);
        Check.status(x, 62, 0, 0);
        Check.due("OUT stays", x.out(0), 9);
    }

    private static void countOfReadsAndWrites() {
        Check.says("How many blocks were READ (what = 0), WRITTEN (1) so far, without an error, by whatever call but "
                + "format");
        Drive x = new Drive();
        counts(x, 0, 0, 0);
        x.format(ID, 1, 2);
        counts(x, 0, 0, 0);
        x.info();
        counts(x, 1, 0, 0);
        x.list();
        counts(x, 3, 0, 0);
        x.load(1, 1);
        counts(x, 5, 0, 0);
        x.scratch(1, 1);
        counts(x, 7, 0, 0);
        Check.tape(x, 63, 1);
        x.save(1, 1, 1);
        counts(x, 9, 4, 0);
        x.load(1, 1);
        counts(x, 13, 4, 0);
        x.save(1, 1, 1);
        counts(x, 15, 4, 0);
        x.scratch(1, 1);
        counts(x, 19, 6, 0);
        x.read(5, 5);
        x.write(5, 5);
        counts(x, 20, 7, 0);
        x.mount(ID);
        x.save(0, 1, 1);
        x.turn(1, 1);
        x.syncs(1);
        counts(x, 20, 7, 0);
        x.format(ID, 1, 2);
        counts(x, 20, 7, 0);
    }

    private static void counts(Drive x, int reads, int writes, int errors) {
        Check.due("count(0)", x.count(0), reads);
        Check.due("count(1)", x.count(1), writes);
        Check.due("count(2)", x.count(2), errors);
    }

    private static void countOfErrors() {
        Check.says("how often reading or writing one had an error of 20 to 29 (2)");
        String[] wrong = {Bits.coded(8, 0, 0, 3, 0x12, 0x34), Bits.header(3, 0, ID + 1), Bits.header(3, 1, ID)};
        int[] numbers = {27, 29, 20};
        for (int i = 0; i < 3; i++) {
            Drive x = laid(Bits.over(ring(0, Bits.sector(3, 0, ID)), Bits.HEADER, wrong[i]));
            Check.due("read", x.read(3, 0), numbers[i]);
            counts(x, 0, 0, 1);
            Check.due("write", x.write(3, 0), numbers[i]);
            counts(x, 0, 0, 2);
        }
        int[] places = {Bits.DATA, Bits.DATA + 10, Bits.DATA + 20};
        String[] bits = {"00000", "00000", Bits.coded(1)};
        int[] errors = {22, 24, 23};
        for (int i = 0; i < 3; i++) {
            Drive x = laid(Bits.over(ring(0, Bits.sector(3, 0, ID)), places[i], bits[i]));
            Check.due("read", x.read(3, 0), errors[i]);
            counts(x, 0, 0, 1);
        }
        Drive x = new Drive();
        x.read(1, 1);
        x.info();
        counts(x, 0, 0, 0);
        x.mount(ID);
        Check.due("read", x.read(1, 1), 21);
        Check.due("write", x.write(1, 1), 21);
        Check.due("info", x.info(), -1);
        Check.due("list", x.list(), -1);
        Check.due("load", x.load(1, 1), -1);
        Check.due("scratch", x.scratch(1, 1), 21);
        Check.due("save", x.save(1, 1, 1), 21);
        counts(x, 0, 0, 7);
        Check.due("read of no block", x.read(0, 1), 66);
        Check.due("write of no block", x.write(0, 1), 66);
        counts(x, 0, 0, 7);
        x.format(ID, 1, 1);
        Check.due("62 is no error of 20 to 29", x.load(1, 1), -1);
        counts(x, 2, 0, 7);
        Check.putBlock(x, 9, 1, 77, 77);
        Check.due("66 is none either", x.list(), -1);
        counts(x, 4, 1, 7);
    }

    private static void countOfTheTape() {
        Check.says("bytes of the TAPE (3)");
        Drive x = formatted();
        Check.due("count(3)", x.count(3), 0);
        x.feed(1, 2, 3, 4, 5);
        Check.due("count(3)", x.count(3), 20);
        x.end(7);
        Check.due("count(3)", x.count(3), 7);
        x.feed(1, 2, 3, 4, 5);
        Check.due("count(3)", x.count(3), 27);
        x.format(1, 1, 1);
        x.mount(1);
        x.info();
        x.list();
        x.load(1, 1);
        x.scratch(1, 1);
        x.read(1, 1);
        Check.due("other calls leave the TAPE", x.count(3), 27);
        x.save(1, 1, 1);
        Check.due("count(3)", x.count(3), 0);
    }

    private static void countOfNothing() {
        Check.says("-1: no such what.");
        Drive x = formatted();
        for (int what : new int[] {-1, 4, 5, LOW, HIGH, 256, -4}) {
            Check.due("count(" + what + ")", x.count(what), -1);
        }
    }
}
