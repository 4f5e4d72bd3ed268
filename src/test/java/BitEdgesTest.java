/** The edges that the document's part 1 and its promises 13 to 17 name, a sentence at a time. */
public final class BitEdgesTest {
    private static final int LOW = Integer.MIN_VALUE;
    private static final int HIGH = Integer.MAX_VALUE;
    private static final int ID = 0x1234;
    private static final int[] NO_TRACKS = {0, 17, -1, 255, LOW, HIGH, LOW + 1, -16, 1 << 16};
    private static final int[] EACH_SIZE = {1, 8, 9, 12, 13, 16};

    public static void main(String[] args) {
        tracksAreOneToSixteen();
        tracksEndWithTheirLastByte();
        tracksAreAllZeroAtFirst();
        highestBitIsFirst();
        sectorsAreNumberedFromZero();
        eachByteIsCoded();
        eachHalfThatIsNoCode();
        tenOnesMakeASync();
        aSyncIsAsLongAsItIs();
        aSyncGoesRoundTheRing();
        onesAloneAreNoSync();
        asManySyncsAsThereIsRoomFor();
        codedBeginsRoundTheRing();
        syncsAreInTheOrderOfWhatIsBehind();
        headerBeginsWithEight();
        headerChecksum();
        dataBeginsWithSeven();
        dataChecksum();
        peekOfNoByte();
        pokeTakesTheLowestEightBits();
        pokeOfNoByte();
        stampGoesRoundTheRing();
        stampOfNoByte();
        turnMovesAllBits();
        turnOfNoTrack();
        syncsOfNoTrack();
        Check.finish();
    }

    private static Drive formatted() {
        Drive x = new Drive();
        Check.due("format", x.format(ID, 1, 2), 0);
        return x;
    }

    private static Drive laid(int track, String bits) {
        Drive x = new Drive();
        Check.due("mount", x.mount(ID), 0);
        Bits.lay(x, track, bits);
        return x;
    }

    private static void tracksAreOneToSixteen() {
        Check.says("There are TRACKS 1 to 16");
        Drive x = formatted();
        for (int t : NO_TRACKS) {
            Check.due("peek(" + t + ", 0)", x.peek(t, 0), -1);
            Check.due("poke(" + t + ", 0, 1)", x.poke(t, 0, 1), -1);
            Check.due("stamp(" + t + ", 0, 1)", x.stamp(t, 0, 1), -1);
            Check.due("turn(" + t + ", 1)", x.turn(t, 1), -1);
            Check.due("syncs(" + t + ")", x.syncs(t), -1);
            Check.due("read(" + t + ", 0)", x.read(t, 0), 66);
            Check.due("write(" + t + ", 0)", x.write(t, 0), 66);
        }
        for (int t = 1; t <= 16; t++) {
            Check.due("peek(" + t + ", 0)", x.peek(t, 0), 255);
            Check.due("syncs(" + t + ")", x.syncs(t), 2 * Bits.sectors(t));
            Check.due("read(" + t + ", 0)", x.read(t, 0), 0);
            Check.due("turn(" + t + ", 8)", x.turn(t, 8), 1);
            Check.due("poke(" + t + ", 0, 1)", x.poke(t, 0, t), 85);
            Check.due("stamp(" + t + ", 1, 1)", x.stamp(t, 1, t), 1);
        }
        for (int t = 1; t <= 16; t++) {
            Check.due("peek(" + t + ", 0)", x.peek(t, 0), t);
            Check.due("peek(" + t + ", 4)", x.peek(t, 4), t);
        }
    }

    private static void tracksEndWithTheirLastByte() {
        Check.says("a track is a ring of 8 * 1060 bits (tracks 1 to 8), 8 * 940 (9 to 12), 8 * 830 (13 to 16)");
        Drive x = new Drive();
        for (int t = 1; t <= 16; t++) {
            int size = Bits.size(t);
            Check.due("peek of the last byte of " + t, x.peek(t, size - 1), 0);
            Check.due("peek beyond the last byte of " + t, x.peek(t, size), -1);
            Check.due("poke beyond the last byte of " + t, x.poke(t, size, 1), -1);
            Check.due("stamp beyond the last byte of " + t, x.stamp(t, size, 1), -1);
            x.poke(t, 0, 128);
            Check.due("turn", x.turn(t, -1), 1);
            Check.due("the first bit has become the last one of " + t, x.peek(t, size - 1), 1);
            Check.due("turn", x.turn(t, 1 + 8 * size), 1);
            Check.due("it comes back", x.peek(t, 0), 128);
        }
    }

    private static void tracksAreAllZeroAtFirst() {
        Check.says("all 0 at first");
        for (int t = 1; t <= 16; t++) {
            Bits.due("a new object", Drive::new, t, Bits.zeros(8 * Bits.size(t)));
        }
    }

    private static void highestBitIsFirst() {
        Check.says("Its BYTES are eight bits each from bit 0 on, the highest one first.");
        for (int place = 0; place < 16; place++) {
            Drive x = new Drive();
            x.poke(3, 0, 128);
            x.turn(3, place);
            Check.due("byte 0 after " + place, x.peek(3, 0), place < 8 ? 128 >> place : 0);
            Check.due("byte 1 after " + place, x.peek(3, 1), place < 8 ? 0 : 128 >> place - 8);
        }
    }

    private static void sectorsAreNumberedFromZero() {
        Check.says("Tracks 1 to 8 have 9 SECTORS, 9 to 12 have 8, 13 to 16 have 7, each numbered from 0");
        Drive x = formatted();
        for (int t = 1; t <= 16; t++) {
            int sectors = Bits.sectors(t);
            Check.due("read the first sector of " + t, x.read(t, 0), 0);
            Check.due("read the last sector of " + t, x.read(t, sectors - 1), 0);
            Check.due("read beyond the last sector of " + t, x.read(t, sectors), 66);
            Check.due("read ahead of the first sector of " + t, x.read(t, -1), 66);
            Check.due("write the last sector of " + t, x.write(t, sectors - 1), 0);
            Check.due("write beyond the last sector of " + t, x.write(t, sectors), 66);
            Check.due("write ahead of the first sector of " + t, x.write(t, -1), 66);
        }
    }

    private static void eachByteIsCoded() {
        Check.says("CODE: a byte is ten bits, five for its higher and five for its lower half");
        for (int part = 0; part < 4; part++) {
            int[] bytes = new int[64];
            for (int i = 0; i < 64; i++) {
                bytes[i] = 64 * part + i;
            }
            String due = Bits.over(Bits.track(1, ID), Bits.DATA, Bits.data(bytes));
            Bits.due("write", () -> {
                Drive x = formatted();
                Check.putBlock(x, 1, 0, bytes);
                return x;
            }, 1, due);
            Drive x = laid(1, due);
            Check.due("read", x.read(1, 0), 0);
            Check.out(x, bytes);
        }
    }

    private static void eachHalfThatIsNoCode() {
        Check.says("Others are NO CODE.");
        for (int v = 0; v < 32; v++) {
            String five = Integer.toBinaryString(32 + v).substring(1);
            for (int half = 0; half < 2; half++) {
                Drive x = formatted();
                boolean same = v == 0b01010;
                Bits.put(x, 1, Bits.DATA + 10 + 5 * half, five);
                Check.due("half " + half + " is " + five, x.read(1, 0), same ? 0 : Bits.isCode(five) ? 23 : 24);
                Bits.put(x, 1, Bits.SECTOR + Bits.HEADER + 40 + 5 * half, five);
                boolean asID = five.equals(half == 0 ? "01011" : "10010");
                Check.due("half " + half + " of an ID is " + five, x.read(1, 1),
                        asID ? 0 : Bits.isCode(five) ? 27 : 20);
            }
        }
    }

    private static void tenOnesMakeASync() {
        Check.says("A SYNC is a row of ten or more bits 1");
        for (int place = 0; place < 8; place++) {
            for (int many = 1; many <= 20; many++) {
                Drive x = new Drive();
                Bits.put(x, 5, 80 + place, Bits.ones(many));
                Check.due(many + " ones at " + place, x.syncs(5), many < 10 ? 0 : 1);
            }
            Drive y = new Drive();
            Bits.put(y, 5, 80 + place, Bits.ones(9) + "0" + Bits.ones(9) + "0" + Bits.ones(10));
            Check.due("nine, nine and ten ones", y.syncs(5), 1);
            Bits.put(y, 5, 80 + place + 9, "1");
            Check.due("nineteen and ten ones", y.syncs(5), 2);
        }
    }

    private static void aSyncIsAsLongAsItIs() {
        Check.says("as long as it is");
        for (int many : new int[] {10, 11, 19, 20, 21, 30, 39, 40, 41, 100, 255, 256, 257}) {
            String ring = Bits.over(Bits.zeros(8480), 77, Bits.ones(many) + Bits.header(5, 3, ID) + Bits.gap(2)
                    + Bits.ones(many) + Bits.data(9, 8, 7));
            Drive x = laid(5, ring);
            Check.due("two rows of " + many + " ones", x.syncs(5), 2);
            Check.due("read behind " + many + " ones", x.read(5, 3), 0);
            Check.due("out(2)", x.out(2), 7);
        }
        for (int t : EACH_SIZE) {
            Drive x = laid(t, Bits.over(Bits.ones(8 * Bits.size(t)), 100, "0"));
            Check.due("all ones but one", x.syncs(t), 1);
            Check.due("which is no header", x.read(t, 0), 20);
        }
    }

    private static void aSyncGoesRoundTheRing() {
        Check.says("A SYNC is a row of ten or more bits 1, as long as it is (round the ring)");
        for (int t : EACH_SIZE) {
            for (int many : new int[] {9, 10, 16, 17, 18, 24, 40}) {
                for (int back = 0; back <= many + 9; back++) {
                    Drive x = new Drive();
                    Bits.put(x, t, -back, Bits.ones(many));
                    Check.due(many + " ones from " + back + " bits ahead of bit 0", x.syncs(t), many < 10 ? 0 : 1);
                }
            }
        }
    }

    private static void onesAloneAreNoSync() {
        Check.says("A track of bits 1 alone has none.");
        for (int t : EACH_SIZE) {
            int size = Bits.size(t);
            Drive x = laid(t, Bits.ones(8 * size));
            Check.due("syncs", x.syncs(t), 0);
            Check.due("read", x.read(t, 0), 21);
            Check.due("write", x.write(t, 0), 21);
            for (int i : new int[] {0, 1, size / 2, size - 2, size - 1}) {
                for (int bit = 1; bit <= 128; bit *= 2) {
                    Check.due("poke", x.poke(t, i, 255 - bit), 255);
                    Check.due("a bit 0 in byte " + i, x.syncs(t), 1);
                    Check.due("poke", x.poke(t, i, 255), 255 - bit);
                }
            }
            Check.due("ones alone again", x.syncs(t), 0);
        }
    }

    private static void asManySyncsAsThereIsRoomFor() {
        Check.says("How many SYNCS a track has.");
        for (int t : EACH_SIZE) {
            int bits = 8 * Bits.size(t);
            String ring = (Bits.ones(10) + "0").repeat(bits / 11) + Bits.ones(bits % 11);
            for (int n : new int[] {0, 1, 5, 10, 11, -1}) {
                Drive x = laid(t, Bits.turned(ring, n));
                Check.due("a sync in each eleven bits, turned by " + n, x.syncs(t), bits / 11);
                Check.due("read", x.read(t, 0), 20);
            }
        }
    }

    /** The ring's end lies at each place within a sector in turn. */
    private static void codedBeginsRoundTheRing() {
        Check.says("what is CODED behind it begins at the first bit 0 behind it (round the ring, too)");
        for (int t : new int[] {1, 9, 13}) {
            for (int from = 0; from < Bits.SECTOR; from += 100) {
                Drive x = formatted();
                Check.putBlock(x, t, 2, 1, 2, 3, 4);
                x.turn(t, -2 * Bits.SECTOR - from);
                for (int n = from; n < from + 100; n++) {
                    Check.due("read " + n + " bits behind the ring's end", x.read(t, 2), 0);
                    Check.due("out(3)", x.out(3), 4);
                    Check.due("syncs", x.syncs(t), 2 * Bits.sectors(t));
                    x.turn(t, -1);
                }
            }
        }
    }

    /** Of two headers of one block the one that begins first counts; one of them has a wrong checksum. */
    private static void syncsAreInTheOrderOfWhatIsBehind() {
        Check.says("The SYNCS of a track stand in the order in which what is behind them begins, from bit 0 on.");
        String wrong = Bits.coded(8, 99, 4, 2, ID / 256, ID % 256);
        String ring = Bits.over(Bits.zeros(8480), 8480 - 40, Bits.sector(2, 4, ID, 5));
        ring = Bits.over(ring, 4000, Bits.ones(40) + wrong);
        for (int n = -8; n <= 48; n++) {
            Drive x = laid(2, Bits.turned(ring, n));
            boolean first = n >= 0;
            Check.due("the right one begins at " + n, x.read(2, 4), first ? 0 : 27);
            Check.due("the right one begins at " + n, x.write(2, 4), first ? 0 : 27);
        }
        for (int n = -4000 - 40 - 8; n <= -4000 - 40 + 8; n++) {
            Drive x = laid(2, Bits.turned(ring, n));
            boolean first = n < -4040;
            Check.due("the wrong one begins at " + (n + 4040), x.read(2, 4), first ? 0 : 27);
        }
    }

    private static void headerBeginsWithEight() {
        Check.says("A HEADER is what is coded behind a sync, if its first byte is 8 (coded)");
        for (int v = 0; v < 256; v++) {
            String first = Bits.coded(v);
            // What is coded behind a sync begins with a bit 0, so other bytes can't stand there.
            if (first.charAt(0) == '0') {
                Drive x = formatted();
                Bits.put(x, 1, Bits.HEADER, first);
                Check.due("the first byte is " + v, x.read(1, 0), v == 8 ? 0 : 20);
                Check.due("the first byte is " + v, x.write(1, 0), v == 8 ? 0 : 20);
            }
        }
    }

    private static void headerChecksum() {
        Check.says("the checksum is right, if it is the four behind it, each alone with the others (bit by bit)");
        int right = 3 ^ 12 ^ 0x12 ^ 0x34;
        for (int v = 0; v < 256; v++) {
            Drive x = formatted();
            Bits.put(x, 12, 3 * Bits.SECTOR + Bits.HEADER + 10, Bits.coded(v));
            Check.due("checksum " + v, x.read(12, 3), v == right ? 0 : 27);
        }
        for (int id : new int[] {0, 1, 0x0100, 0x8000, 0xFFFF, 0xFF00, 0x00FF, 0xAAAA, 0x5AA5}) {
            Drive x = new Drive();
            Check.due("format", x.format(id, 1, 1), 0);
            for (int t : EACH_SIZE) {
                for (int s = 0; s < Bits.sectors(t); s++) {
                    Check.due("read", x.read(t, s), 0);
                }
            }
            Check.due("mount", x.mount(id ^ 1), 0);
            Check.due("read", x.read(1, 1), 29);
        }
    }

    private static void dataBeginsWithSeven() {
        Check.says("DATA is what is coded behind a sync, if its first byte is 7");
        for (int v = 0; v < 256; v++) {
            String first = Bits.coded(v);
            if (first.charAt(0) == '0') {
                Drive x = formatted();
                Bits.put(x, 1, Bits.DATA, first);
                Check.due("the first byte is " + v, x.read(1, 0), v == 7 ? 0 : 22);
            }
        }
    }

    private static void dataChecksum() {
        Check.says("7, 64 bytes, and a CHECKSUM: these 64 each alone with the others");
        for (int v = 0; v < 256; v++) {
            Drive x = formatted();
            Check.putBlock(x, 1, 0, 0x0F, 0xF0, 0x33);
            Bits.put(x, 1, Bits.DATA + 650, Bits.coded(v));
            Check.due("checksum " + v, x.read(1, 0), v == 0xCC ? 0 : 23);
        }
        for (int i = 0; i < 64; i++) {
            Drive x = formatted();
            Bits.put(x, 1, Bits.DATA + 10 + 10 * i, Bits.coded(0x90));
            Check.due("byte " + i + " has changed", x.read(1, 0), 23);
            Check.due("OUT is empty", x.out(0), -1);
            Bits.put(x, 1, Bits.DATA + 10 + 10 * (63 - i), Bits.coded(0x90));
            Check.due("and another one as much", x.read(1, 0), 0);
            Check.due("out(" + i + ")", x.out(i), 0x90);
        }
    }

    private static void peekOfNoByte() {
        Check.says("Byte i of a track. -1 if there is none such.");
        Drive x = formatted();
        for (int t = 1; t <= 16; t++) {
            for (int i : new int[] {-1, Bits.size(t), LOW, HIGH, LOW + 1, 1 << 28}) {
                Check.due("peek(" + t + ", " + i + ")", x.peek(t, i), -1);
            }
            Check.due("peek(" + t + ", 0)", x.peek(t, 0), 255);
            Check.due("peek of the last byte", x.peek(t, Bits.size(t) - 1), 85);
        }
        Check.due("a wrong track and a wrong byte", x.peek(0, -1), -1);
        Check.due("a wrong track and a wrong byte", x.peek(17, 1060), -1);
    }

    private static void pokeTakesTheLowestEightBits() {
        Check.says("Byte i of a track becomes the lowest 8 bits of v. Answers what it was.");
        for (int i : new int[] {0, 1, 1058, 1059}) {
            Drive x = new Drive();
            int before = 0;
            for (int v : new int[] {1, 255, 256, 0x1FF, -1, LOW, HIGH, -256, 0x12345678, 128}) {
                Check.due("poke(4, " + i + ", " + v + ")", x.poke(4, i, v), before);
                before = v & 255;
                Check.due("peek(4, " + i + ")", x.peek(4, i), before);
                Check.due("the byte ahead", x.peek(4, (i + 1059) % 1060), 0);
                Check.due("the byte behind", x.peek(4, (i + 1) % 1060), 0);
            }
        }
    }

    private static void pokeOfNoByte() {
        Check.says("-1: there is none such.");
        int[][] none = {{0, 0}, {17, 0}, {1, -1}, {1, 1060}, {9, 940}, {13, 830}, {LOW, HIGH}, {HIGH, LOW}, {1, LOW},
            {1, HIGH}};
        for (int t : new int[] {1, 9, 13}) {
            Bits.due("poke of no byte changes nothing", () -> {
                Drive x = formatted();
                for (int[] at : none) {
                    Check.due("poke(" + at[0] + ", " + at[1] + ", 0)", x.poke(at[0], at[1], 0), -1);
                    Check.due("stamp(" + at[0] + ", " + at[1] + ", 0)", x.stamp(at[0], at[1], 0), -1);
                }
                if (t == 9) {
                    Check.putBlock(x, 9, 0);
                }
                return x;
            }, t, Bits.track(t, ID));
        }
    }

    private static void stampGoesRoundTheRing() {
        Check.says("The four bytes of v come to bytes i to i + 3 of a track (round the ring), the highest one first.");
        for (int t : EACH_SIZE) {
            int size = Bits.size(t);
            for (int i : new int[] {0, 1, size - 5, size - 4, size - 3, size - 2, size - 1}) {
                Drive x = new Drive();
                for (int v : new int[] {-1, 0x80010203, 0x01020380, LOW, HIGH, 0}) {
                    Check.due("stamp(" + t + ", " + i + ", " + v + ")", x.stamp(t, i, v), 1);
                    for (int k = 0; k < 4; k++) {
                        Check.due("byte " + k + " of it", x.peek(t, (i + k) % size), v >>> 24 - 8 * k & 255);
                    }
                    Check.due("the byte ahead", x.peek(t, (i + size - 1) % size), 0);
                    Check.due("the byte behind", x.peek(t, (i + 4) % size), 0);
                }
            }
        }
    }

    private static void stampOfNoByte() {
        Check.says("Answers 1; -1: there is no byte i.");
        Drive x = new Drive();
        for (int t = 1; t <= 16; t++) {
            Check.due("stamp at the last byte", x.stamp(t, Bits.size(t) - 1, -1), 1);
            for (int i : new int[] {-1, -3, -4, Bits.size(t), LOW, HIGH}) {
                Check.due("stamp(" + t + ", " + i + ", 0)", x.stamp(t, i, 0), -1);
            }
            Check.due("the last byte stays", x.peek(t, Bits.size(t) - 1), 255);
            Check.due("the first byte stays", x.peek(t, 0), 255);
        }
    }

    private static void turnMovesAllBits() {
        Check.says("A track's bits all move on by n places (the last ones come first; n below 0: back)");
        for (int t : new int[] {1, 9, 13}) {
            int bits = 8 * Bits.size(t);
            String ring = t == 9 ? mapTrack() : Bits.track(t, ID);
            int[] places = {0, 1, -1, 7, 8, 9, -7, -8, -9, bits - 1, bits, bits + 1, 1 - bits, -bits, -bits - 1,
                3 * bits + 5, HIGH, HIGH - 1, LOW, LOW + 1};
            for (int n : places) {
                Bits.due("turn(" + t + ", " + n + ")", () -> {
                    Drive x = formatted();
                    Check.due("turn(" + t + ", " + n + ")", x.turn(t, n), 1);
                    return x;
                }, t, Bits.turned(ring, Math.floorMod(n, bits)));
            }
        }
        Drive x = formatted();
        x.turn(5, 3);
        Check.due("another track stays", x.peek(4, 0), 255);
        Check.due("another track stays", x.peek(6, 0), 255);
        Check.due("another track stays", x.peek(6, 1059), 85);
    }

    private static String mapTrack() {
        return Bits.over(Bits.track(9, ID), Bits.DATA, Bits.data(Check.newMap(ID, 1, 2)));
    }

    private static void turnOfNoTrack() {
        Check.says("1; -1: there is no such track.");
        Drive x = formatted();
        for (int t : NO_TRACKS) {
            for (int n : new int[] {0, 1, -1, LOW, HIGH}) {
                Check.due("turn(" + t + ", " + n + ")", x.turn(t, n), -1);
            }
        }
        for (int t = 1; t <= 16; t++) {
            Check.due("track " + t + " stays", x.peek(t, 4), 255);
            Check.due("track " + t + " stays", x.peek(t, 5), 82);
        }
    }

    private static void syncsOfNoTrack() {
        Check.says("How many SYNCS a track has. -1: there is no such track.");
        Drive x = new Drive();
        for (int t : NO_TRACKS) {
            Check.due("syncs(" + t + ")", x.syncs(t), -1);
        }
        for (int t = 1; t <= 16; t++) {
            Check.due("none at first", x.syncs(t), 0);
        }
    }
}
