import java.util.ArrayList;
import java.util.List;

/** The edges that the document's parts 3 and 4 name, a sentence at a time. */
public final class DiskEdgesTest {
    private static final int ID = 0x1234;
    private static final int[] FILE_TRACKS = {8, 7, 6, 5, 4, 3, 2, 1, 10, 11, 12, 13, 14, 15, 16};

    public static void main(String[] args) {
        mapBits();
        mapOfOtherBytes();
        directoryOfFiveEntries();
        directoryLastOne();
        emptyEntries();
        lastBlockOfAFile();
        restOfTheLastBlock();
        firstErrorEndsIt();
        mapIsReadFirst();
        noIdIsAheadOfAll();
        lookedForUpToTheFirst();
        namesDiffer();
        directoryLeadsToNoBlock();
        directoryBeyondSeven();
        saveOfOneThatIsThere();
        firstEmptyEntryCounts();
        directoryGrowsByTheLeast();
        directoryHasNoRoom();
        asManyBlocksAsAreNeeded();
        blocksAreTakenInOrder();
        diskHasNoRoom();
        noRoomChangesNothing();
        blocksAreWrittenInOrder();
        newBlockIsEmptyButForTheEntry();
        newBlockIsAheadOfTheLink();
        mapIsWrittenLast();
        loadOfNone();
        fileLeadsToNoBlock();
        fileBeyondForty();
        lastBlockOfTooMany();
        loadWithErrorEmptiesOut();
        scratchClearsTheEntry();
        scratchFreesBlocks();
        scratchWithError();
        listOfAllBlocks();
        Check.finish();
    }

    private static Drive formatted() {
        Drive x = new Drive();
        Check.due("format", x.format(ID, 1, 2), 0);
        return x;
    }

    private static int[] newMap() {
        return Check.newMap(ID, 1, 2);
    }

    /** A directory's block of entries: type, track, sector, blocks and the first byte of the name, of each. */
    private static int[] entries(int track, int sector, int... fives) {
        int[] block = new int[64];
        block[0] = track;
        block[1] = sector;
        for (int i = 0; i < fives.length; i++) {
            block[2 + 12 * (i / 5) + i % 5] = fives[i];
        }
        return block;
    }

    /** A directory's block whose five entries bear names from that one on, all of the file at (1, 0). */
    private static int[] fullBlock(int track, int sector, int name) {
        return entries(track, sector, 1, 1, 0, 1, name, 1, 1, 0, 1, name + 1, 1, 1, 0, 1, name + 2, 1, 1, 0, 1, name + 3,
                1, 1, 0, 1, name + 4);
    }

    /** The number of a NAME whose first byte is this and whose others are 0. */
    private static int name(int first) {
        return first << 24;
    }

    private static void mapBits() {
        Check.says("sector s by bit s mod 8 of byte 2 * t + s / 8; the others are 0 there");
        for (int t : new int[] {1, 8, 10, 12, 13, 16}) {
            for (int s = 0; s < Bits.sectors(t); s++) {
                Drive x = formatted();
                int[] one = Check.with(new int[64], 2 * t + s / 8, 1 << s % 8);
                Check.putBlock(x, 9, 0, one);
                Check.due("info", x.info(), 11);
                Check.due("FREE ones", x.out(10), 1);
                Check.tape(x, 62, 1);
                Check.due("save", x.save(1, 1, 1), 0);
                Check.due("read", x.read(t, s), 0);
                Check.due("a file's block at (" + t + ", " + s + ")", x.out(1), 62);
                Check.blockIs(x, 9, 0);
                Check.due("scratch", x.scratch(1, 1), 1);
                Check.blockIs(x, 9, 0, one);
            }
        }
    }

    private static void mapOfOtherBytes() {
        Check.says("which of its sectors are FREE, by bits");
        Drive x = formatted();
        int[] map = Check.with(new int[64], 2, 0, 3, 254, 16, 0, 17, 254, 20, 0, 21, 255, 26, 128, 27, 255, 34, 255);
        Check.putBlock(x, 9, 0, map);
        Check.due("info", x.info(), 11);
        Check.due("bits of no sector are no blocks", x.out(10), 0);
        Check.due("save", x.save(1, 1, 1), 72);
        Check.putBlock(x, 9, 0, Check.with(map, 32, 64));
        Check.due("save", x.save(1, 1, 1), 0);
        Check.due("the one that there is", x.read(16, 6), 0);
        Check.blockIs(x, 9, 0, map);
        Check.due("save", x.save(1, 2, 2), 72);
    }

    private static void directoryOfFiveEntries() {
        Check.says("from bytes 2, 14, 26, 38, 50 on are five ENTRIES of twelve bytes");
        Drive x = formatted();
        for (int i = 1; i <= 5; i++) {
            Check.due("save", x.save(i, name(i), 7), 0);
        }
        int[] due = entries(0, 0, 1, 8, 0, 1, 1, 2, 8, 1, 1, 2, 3, 8, 2, 1, 3, 4, 8, 3, 1, 4, 5, 8, 4, 1, 5);
        for (int e = 2; e <= 50; e += 12) {
            due[e + 11] = 7;
        }
        Check.blockIs(x, 9, 1, due);
        Check.due("a sixth", x.save(6, name(6), 7), 0);
        Check.blockIs(x, 9, 1, Check.with(due, 0, 9, 1, 2));
        Check.blockIs(x, 9, 2, Check.with(entries(0, 0, 6, 8, 5, 1, 6), 13, 7));
    }

    private static void directoryLastOne() {
        Check.says("bytes 0, 1 of each are the track and sector of the next one, or 0, 0 in the last one");
        Drive x = formatted();
        Check.putBlock(x, 9, 1, entries(0, 0, 1, 1, 0, 1, 65));
        Check.due("0, 0", x.list(), 10);
        Check.due("read", x.count(0), 2);
        Check.putBlock(x, 9, 1, entries(0, 1, 1, 1, 0, 1, 65));
        Check.due("0, 1", x.list(), -1);
        Check.status(x, 66, 9, 1);
        Check.putBlock(x, 9, 1, entries(16, 6, 1, 1, 0, 1, 65));
        Check.putBlock(x, 16, 6, entries(1, 0, 2, 1, 0, 1, 66));
        Check.putBlock(x, 1, 0, entries(9, 7, 3, 1, 0, 1, 67));
        Check.due("by any blocks", x.list(), 30);
        Check.due("out(0)", x.out(0), 1);
        Check.due("out(10)", x.out(10), 2);
        Check.due("out(20)", x.out(20), 3);
    }

    private static void emptyEntries() {
        Check.says("a TYPE (0: the entry is empty)");
        Drive x = formatted();
        Check.putBlock(x, 9, 1, entries(0, 0, 0, 1, 0, 1, 65, 200, 1, 0, 9, 66, 0, 1, 0, 1, 67, 255, 1, 0, 1, 68));
        Check.due("list", x.list(), 20);
        Check.out(x, 200, 9, 66, 0, 0, 0, 0, 0, 0, 0, 255, 1, 68, 0, 0, 0, 0, 0, 0, 0);
        Check.due("an empty one is no file", x.load(name(65), 0), -1);
        Check.status(x, 62, 0, 0);
        Check.due("an empty one is no file", x.scratch(name(67), 0), 62);
        Check.due("another TYPE is one", x.load(name(66), 0), 0);
        Check.due("another TYPE is one", x.save(1, name(68), 0), 63);
        Check.due("the empty one counts", x.save(4, name(67), 5), 0);
        Check.due("read", x.read(9, 1), 0);
        Check.due("type", x.out(2), 4);
        Check.due("name", x.out(6), 67);
        Check.due("name", x.out(13), 5);
    }

    private static void lastBlockOfAFile() {
        Check.says("in the last one, byte 0 is 0, byte 1 is how many bytes (0 to 62), from byte 2 on, are the file's");
        for (int many : new int[] {0, 1, 61, 62}) {
            Drive x = formatted();
            Check.tape(x, many, 3);
            Check.due("save", x.save(1, 1, 1), 0);
            int[] due = new int[64];
            due[1] = many;
            for (int i = 0; i < many; i++) {
                due[2 + i] = Check.fileByte(i, 3);
            }
            Check.blockIs(x, 8, 0, due);
            Check.due("one block", x.read(8, 1), 0);
            Check.due("the next one is as it was", x.out(1), 0);
            Check.putBlock(x, 8, 0, Check.with(due, 1, 62));
            Check.due("load", x.load(1, 1), 62);
            Check.putBlock(x, 8, 0, Check.with(due, 1, 0));
            Check.due("load", x.load(1, 1), 0);
        }
        Drive y = formatted();
        Check.tape(y, 63, 3);
        Check.due("save", y.save(1, 1, 1), 0);
        Check.blockIs(y, 8, 1, 0, 1, Check.fileByte(62, 3));
        Check.due("read", y.read(8, 0), 0);
        Check.due("link", y.out(0), 8);
        Check.due("link", y.out(1), 1);
        Check.due("byte", y.out(63), Check.fileByte(61, 3));
        Check.putBlock(y, 8, 1, 0, 0, 99);
        Check.due("an empty last one", y.load(1, 1), 62);
    }

    private static void restOfTheLastBlock() {
        Check.says("and all others are 0 when it is saved");
        int[] filled = new int[64];
        java.util.Arrays.fill(filled, 77);
        Drive x = formatted();
        Check.putBlock(x, 8, 0, filled);
        Check.due("save of none", x.save(1, 1, 1), 0);
        Check.blockIs(x, 8, 0);
        Check.putBlock(x, 8, 1, filled);
        Check.tape(x, 100, 1);
        Check.due("end", x.end(2), 2);
        Check.due("save of two", x.save(1, 2, 2), 0);
        Check.blockIs(x, 8, 1, 0, 2, 1, 8);
        Check.putBlock(x, 8, 2, filled);
        Check.putBlock(x, 8, 3, filled);
        Check.tape(x, 65, 1);
        Check.due("save of 65", x.save(1, 3, 3), 0);
        Check.blockIs(x, 8, 3, 0, 3, Check.fileByte(62, 1), Check.fileByte(63, 1), Check.fileByte(64, 1));
    }

    private static void firstErrorEndsIt() {
        Check.says("the first ERROR ends it: then STATUS is its number and the track and sector at which it was");
        Drive x = formatted();
        Check.tape(x, 180, 1);
        Check.due("save", x.save(1, 1, 1), 0);
        Bits.put(x, 8, 2 * Bits.SECTOR + Bits.DATA + 30, "00000");
        Bits.put(x, 8, Bits.SECTOR + Bits.DATA + 30, Bits.coded(0));
        int reads = x.count(0);
        Check.due("load", x.load(1, 1), -1);
        Check.status(x, 23, 8, 1);
        Check.due("reads", x.count(0), reads + 3);
        Check.due("errors", x.count(2), 1);
        Bits.put(x, 9, Bits.SECTOR + Bits.DATA, "00000");
        Check.due("load", x.load(1, 1), -1);
        Check.status(x, 22, 9, 1);
        Bits.put(x, 9, Bits.HEADER + 10, Bits.coded(0));
        Check.due("load", x.load(1, 1), -1);
        Check.status(x, 27, 9, 0);
        Check.due("errors", x.count(2), 3);
    }

    private static void mapIsReadFirst() {
        Check.says("it is read with (9, 0) as the first thing that each of save, scratch, load, list, info does");
        Drive x = formatted();
        Bits.put(x, 9, Bits.DATA + 10, "00000");
        Bits.put(x, 9, Bits.SECTOR + Bits.DATA, "00000");
        for (int call = 0; call < 5; call++) {
            int answer = call == 0 ? x.save(1, 1, 1) : call == 1 ? x.scratch(1, 1) : call == 2 ? x.load(1, 1)
                    : call == 3 ? x.list() : x.info();
            Check.due("answer of call " + call, answer, call < 2 ? 24 : -1);
            Check.status(x, 24, 9, 0);
            Check.due("errors", x.count(2), call + 1);
        }
        Check.due("reads", x.count(0), 0);
        Drive y = formatted();
        Bits.put(y, 9, Bits.SECTOR + Bits.DATA, "00000");
        Check.due("info looks at no directory", y.info(), 11);
        Check.putBlock(y, 9, 0, Check.with(newMap(), 40, 99));
        Check.due("info", y.info(), 11);
        Check.due("the map of the disk", y.out(0), 99);
    }

    private static void noIdIsAheadOfAll() {
        Check.says("74 no ID is at hand (told at 0, 0; ahead of all)");
        for (int call = 0; call < 5; call++) {
            Drive x = new Drive();
            Bits.lay(x, 9, Bits.sector(9, 0, 0, Check.newMap(0, 1, 2)) + Bits.sector(9, 1, 0));
            int answer = call == 0 ? x.save(1, 1, 1) : call == 1 ? x.scratch(1, 1) : call == 2 ? x.load(1, 1)
                    : call == 3 ? x.list() : x.info();
            Check.due("answer of call " + call, answer, call < 2 ? 74 : -1);
            Check.status(x, 74, 0, 0);
            Check.due("errors of 20 to 29", x.count(2), 0);
            x.mount(0);
            Check.due("with an ID", x.list(), 0);
        }
    }

    private static void lookedForUpToTheFirst() {
        Check.says("one by one, up to the first entry (in order) that is not empty and has that name");
        Drive x = formatted();
        Check.putBlock(x, 9, 1, entries(9, 2, 1, 1, 0, 1, 65, 1, 1, 1, 1, 66, 1, 1, 2, 1, 66, 1, 1, 3, 1, 65, 1, 1, 4, 1, 67));
        Check.putBlock(x, 9, 2, entries(9, 3, 1, 1, 5, 1, 67, 1, 1, 6, 1, 68));
        Check.putBlock(x, 9, 3, entries(9, 9));
        for (int s = 0; s < 8; s++) {
            Check.putBlock(x, 1, s, 0, s + 10);
        }
        for (int i = 0; i < 4; i++) {
            int reads = x.count(0);
            Check.due("load", x.load(name(65 + i), 0), new int[] {10, 11, 14, 16}[i]);
            Check.due("reads", x.count(0), reads + (i < 3 ? 3 : 4));
        }
        Check.due("one that is in none", x.load(name(69), 0), -1);
        Check.status(x, 66, 9, 3);
        Check.due("save", x.save(1, name(67), 0), 63);
        Check.status(x, 63, 9, 1);
        Check.due("scratch", x.scratch(name(67), 0), 1);
        Check.due("the second one is left", x.load(name(67), 0), 15);
    }

    private static void namesDiffer() {
        Check.says("has that name");
        Drive x = formatted();
        Check.due("save", x.save(1, 0x41424344, 0x45464748), 0);
        for (int bit = 1; bit != 0; bit <<= 1) {
            Check.due("another name", x.load(0x41424344 ^ bit, 0x45464748), -1);
            Check.due("another name", x.load(0x41424344, 0x45464748 ^ bit), -1);
            Check.due("another name", x.scratch(0x41424344, 0x45464748 ^ bit), 62);
        }
        Check.due("the halves the other way round", x.load(0x45464748, 0x41424344), -1);
        Check.due("that name", x.load(0x41424344, 0x45464748), 0);
    }

    private static void directoryLeadsToNoBlock() {
        Check.says("66 a chain leads to no block");
        int[][] none = {{0, 1}, {0, 255}, {17, 0}, {255, 0}, {1, 9}, {8, 9}, {9, 8}, {12, 8}, {13, 7}, {16, 7}, {9, 255}};
        for (int[] at : none) {
            Drive x = formatted();
            Check.putBlock(x, 9, 1, entries(9, 5, 1, 1, 0, 1, 65));
            Check.putBlock(x, 9, 5, entries(at[0], at[1], 1, 1, 0, 1, 66));
            Check.due("list", x.list(), -1);
            Check.status(x, 66, 9, 5);
            Check.out(x);
            Check.due("save", x.save(1, name(67), 0), 66);
            Check.status(x, 66, 9, 5);
            Check.due("scratch", x.scratch(name(67), 0), 66);
            Check.due("load", x.load(name(67), 0), -1);
            Check.status(x, 66, 9, 5);
            Check.due("one ahead of it", x.load(name(66), 0), 0);
            Check.due("no error of 20 to 29", x.count(2), 0);
        }
        int[][] some = {{1, 0}, {1, 8}, {8, 8}, {9, 7}, {12, 7}, {13, 6}, {16, 6}, {16, 0}};
        for (int[] at : some) {
            Drive x = formatted();
            Check.putBlock(x, 9, 1, entries(at[0], at[1]));
            Check.due("a block", x.list(), 0);
        }
    }

    private static void directoryBeyondSeven() {
        Check.says("or (the directory) beyond 7, told at the block that leads so");
        Drive x = formatted();
        for (int s = 1; s <= 6; s++) {
            Check.putBlock(x, 9, s, fullBlock(9, s + 1, 10 * s));
        }
        Check.putBlock(x, 9, 7, fullBlock(0, 0, 70));
        Check.due("seven blocks", x.list(), 350);
        Check.due("the last entry", x.load(name(74), 0), 0);
        Check.due("none", x.load(name(75), 0), -1);
        Check.status(x, 62, 0, 0);
        Check.putBlock(x, 9, 7, fullBlock(16, 6, 70));
        Check.putBlock(x, 16, 6, fullBlock(0, 0, 80));
        int reads = x.count(0);
        Check.due("eight blocks", x.list(), -1);
        Check.status(x, 66, 9, 7);
        Check.out(x);
        Check.due("the eighth is not read", x.count(0), reads + 8);
        Check.due("eight blocks", x.load(name(80), 0), -1);
        Check.status(x, 66, 9, 7);
        Check.due("eight blocks", x.save(1, name(99), 0), 66);
        Check.due("eight blocks", x.scratch(name(99), 0), 66);
        Check.status(x, 66, 9, 7);
        Check.due("one of the seventh", x.load(name(74), 0), 0);
        Check.due("one of the seventh", x.save(1, name(74), 0), 63);
        Check.status(x, 63, 9, 7);
        Check.putBlock(x, 9, 1, entries(9, 1));
        Check.due("a ring of one", x.list(), -1);
        Check.status(x, 66, 9, 1);
    }

    private static void saveOfOneThatIsThere() {
        Check.says("save: looked for: 63 (at the block with the entry), if it is found");
        Drive x = formatted();
        for (int i = 1; i <= 6; i++) {
            Check.due("save", x.save(1, i, 0), 0);
        }
        int writes = x.count(1);
        Check.due("save", x.save(2, 5, 0), 63);
        Check.status(x, 63, 9, 1);
        Check.due("save", x.save(2, 6, 0), 63);
        Check.status(x, 63, 9, 2);
        Check.due("nothing is written", x.count(1), writes);
        Check.putBlock(x, 9, 0, new int[64]);
        Check.due("63 is ahead of 72", x.save(2, 6, 0), 63);
        Check.due("72", x.save(2, 7, 0), 72);
    }

    private static void firstEmptyEntryCounts() {
        Check.says("Then the first empty entry of those blocks counts");
        for (int e = 0; e < 10; e++) {
            Drive x = formatted();
            int[] first = fullBlock(9, 4, 10);
            int[] second = fullBlock(0, 0, 20);
            int[] block = e < 5 ? first : second;
            block[2 + 12 * (e % 5)] = 0;
            block[50] = 0;
            Check.putBlock(x, 9, 1, first);
            Check.putBlock(x, 9, 4, second);
            Check.due("save", x.save(3, name(99), 0), 0);
            int at = 2 + 12 * (e % 5);
            int[] due = Check.with(block, at, 3, at + 1, 8, at + 2, 0, at + 3, 1, at + 4, 99);
            Check.blockIs(x, 9, 1, e < 5 ? due : first);
            Check.blockIs(x, 9, 4, e < 5 ? second : due);
            Check.due("load", x.load(name(99), 0), 0);
        }
        Drive y = formatted();
        Check.putBlock(y, 9, 1, fullBlock(9, 4, 10));
        Check.putBlock(y, 9, 4, entries(9, 9));
        Check.due("the blocks are read to the end ahead of it", y.save(3, name(99), 0), 66);
    }

    private static void directoryGrowsByTheLeast() {
        Check.says("the least FREE sector of track 9 will be a further block of it");
        for (int s = 2; s < 8; s++) {
            Drive x = formatted();
            Check.putBlock(x, 9, 0, Check.with(newMap(), 18, 255 << s & 255));
            Check.putBlock(x, 9, 1, fullBlock(0, 0, 10));
            Check.putBlock(x, 9, s, 1, 2, 3, 4, 5, 6);
            Check.due("save", x.save(3, name(99), 0), 0);
            Check.blockIs(x, 9, 1, fullBlock(9, s, 10));
            Check.blockIs(x, 9, s, entries(0, 0, 3, 8, 0, 1, 99));
            Check.blockIs(x, 9, 0, Check.with(newMap(), 18, 255 << s + 1 & 255, 16, 254));
            Check.due("list", x.list(), 60);
        }
    }

    private static void directoryHasNoRoom() {
        Check.says("(72, if none is FREE, or it has 7 blocks)");
        Drive x = formatted();
        Check.putBlock(x, 9, 0, Check.with(newMap(), 18, 0));
        Check.putBlock(x, 9, 1, fullBlock(0, 0, 10));
        Check.due("none is FREE", x.save(3, name(99), 0), 72);
        Check.status(x, 72, 0, 0);
        Check.putBlock(x, 9, 0, Check.with(newMap(), 18, 0, 19, 255));
        Check.due("bits of no sector", x.save(3, name(99), 0), 72);
        Check.putBlock(x, 9, 1, Check.with(fullBlock(0, 0, 10), 50, 0));
        Check.due("an entry is empty", x.save(3, name(99), 0), 0);
        Drive y = formatted();
        Check.putBlock(y, 9, 0, Check.with(newMap(), 18, 128));
        for (int s = 1; s <= 5; s++) {
            Check.putBlock(y, 9, s, fullBlock(9, s + 1, 10 * s));
        }
        Check.putBlock(y, 9, 6, fullBlock(0, 0, 60));
        Check.due("six blocks", y.save(3, name(99), 0), 0);
        Check.due("list", y.list(), 310);
        Check.putBlock(y, 9, 0, Check.with(newMap(), 18, 254));
        Check.putBlock(y, 9, 7, fullBlock(0, 0, 70));
        Check.due("seven blocks", y.save(3, name(99), 0), 72);
        Check.status(y, 72, 0, 0);
    }

    private static void asManyBlocksAsAreNeeded() {
        Check.says("As many blocks as are needed (62 bytes each, 1 for none)");
        int[][] sizes = {{0, 1}, {1, 1}, {61, 1}, {62, 1}, {63, 2}, {123, 2}, {124, 2}, {125, 3}, {2418, 39}, {2419, 40},
            {2480, 40}};
        for (int[] size : sizes) {
            Drive x = formatted();
            Check.tape(x, size[0], 1);
            Check.due("save", x.save(1, 1, 1), 0);
            Check.due("blocks written, with the entry's and the map", x.count(1), size[1] + 2);
            Check.due("list", x.list(), 10);
            Check.due("blocks of " + size[0] + " bytes", x.out(1), size[1]);
            Check.due("info", x.info(), 11);
            Check.due("FREE ones", x.out(10), 124 - size[1]);
            Check.due("scratch", x.scratch(1, 1), 1);
            Check.status(x, 1, size[1], 0);
        }
    }

    private static void blocksAreTakenInOrder() {
        Check.says("of tracks 8, 7 .. 1, 10, 11 .. 16, the least sector first");
        List<int[]> order = new ArrayList<>();
        for (int t : FILE_TRACKS) {
            for (int s = 0; s < Bits.sectors(t); s++) {
                order.add(new int[] {t, s});
            }
        }
        Check.due("blocks but of track 9", order.size(), 124);
        for (int from = 0; from < 124; from += 39) {
            Drive x = formatted();
            int[] map = newMap();
            for (int[] at : order.subList(0, from)) {
                map[2 * at[0] + at[1] / 8] &= ~(1 << at[1] % 8);
            }
            Check.putBlock(x, 9, 0, map);
            int many = Math.min(40, 124 - from);
            Check.tape(x, 62 * many, from);
            Check.due("save", x.save(1, 1, 1), 0);
            for (int i = 0; i < many; i++) {
                int[] at = order.get(from + i);
                int[] next = i + 1 < many ? order.get(from + i + 1) : new int[] {0, 62};
                Check.due("read", x.read(at[0], at[1]), 0);
                Check.due("track behind (" + at[0] + ", " + at[1] + ")", x.out(0), next[0]);
                Check.due("sector behind (" + at[0] + ", " + at[1] + ")", x.out(1), next[1]);
                Check.due("byte", x.out(2), Check.fileByte(62 * i, from));
            }
            for (int[] at : order.subList(from, from + many)) {
                map[2 * at[0] + at[1] / 8] &= ~(1 << at[1] % 8);
            }
            Check.blockIs(x, 9, 0, map);
        }
    }

    private static void diskHasNoRoom() {
        Check.says("72, if there are not so many");
        for (int many : new int[] {0, 1, 2, 8}) {
            for (int more = -1; more <= 1; more++) {
                Drive x = formatted();
                int[] map = Check.with(new int[64], 18, 252);
                for (int i = 0; i < many; i++) {
                    int t = FILE_TRACKS[14 - i];
                    map[2 * t] = 1 << i % 7;
                }
                Check.putBlock(x, 9, 0, map);
                int needed = many + more;
                if (needed < 1) {
                    continue;
                }
                Check.tape(x, 62 * needed, 1);
                Check.due(needed + " blocks of " + many, x.save(1, 1, 1), more > 0 ? 72 : 0);
                Check.status(x, more > 0 ? 72 : 0, 0, 0);
                Check.due("load", x.load(1, 1), more > 0 ? -1 : 62 * needed);
            }
        }
        Drive x = formatted();
        Check.putBlock(x, 9, 0, Check.with(new int[64], 18, 252));
        Check.due("a file of no bytes has a block", x.save(1, 1, 1), 72);
        Drive y = formatted();
        Check.tape(y, 2480, 1);
        Check.putBlock(y, 9, 0, Check.with(new int[64], 2, 255, 4, 255, 6, 255, 8, 255, 10, 127));
        Check.tape(y, 2480, 1);
        Check.due("39 of 40", y.save(1, 1, 1), 72);
        Check.tape(y, 2418, 1);
        Check.due("39 of 39", y.save(1, 1, 1), 0);
    }

    private static void noRoomChangesNothing() {
        Check.says("72 there is no room (told at 0, 0)");
        Drive x = formatted();
        int[] map = Check.with(new int[64], 16, 1, 18, 252);
        Check.putBlock(x, 9, 0, map);
        Check.putBlock(x, 9, 1, fullBlock(0, 0, 10));
        Check.tape(x, 63, 1);
        int writes = x.count(1);
        Check.due("room in the directory, none for the file", x.save(1, 1, 1), 72);
        Check.status(x, 72, 0, 0);
        Check.due("nothing is written", x.count(1), writes);
        Check.blockIs(x, 9, 0, map);
        Check.blockIs(x, 9, 1, fullBlock(0, 0, 10));
        Check.blockIs(x, 8, 0);
        Check.due("one that there is room for", x.save(1, 1, 1), 0);
        Check.due("load", x.load(1, 1), 0);
    }

    private static void blocksAreWrittenInOrder() {
        Check.says("They are written in that order, as a chain");
        for (int bad = 0; bad < 4; bad++) {
            Drive x = formatted();
            Bits.put(x, 8, bad * Bits.SECTOR + Bits.HEADER + 10, Bits.coded(0));
            Check.tape(x, 4 * 62, 9);
            Check.due("save", x.save(1, 1, 1), 27);
            Check.status(x, 27, 8, bad);
            Check.due("writes", x.count(1), bad);
            Check.due("errors", x.count(2), 1);
            for (int s = 0; s < 4; s++) {
                if (s != bad) {
                    Check.due("read", x.read(8, s), 0);
                    Check.due("what was written stays", x.out(0), s < bad ? 8 : 0);
                    Check.due("byte", x.out(2), s < bad ? Check.fileByte(62 * s, 9) : 0);
                }
            }
            Check.blockIs(x, 9, 0, newMap());
            Check.blockIs(x, 9, 1);
        }
    }

    private static void newBlockIsEmptyButForTheEntry() {
        Check.says("the new block (empty, but for the entry)");
        Drive x = formatted();
        Check.putBlock(x, 9, 1, Check.with(fullBlock(9, 4, 10), 14, 0, 62, 8, 63, 9));
        Check.putBlock(x, 9, 4, fullBlock(0, 0, 20));
        Check.putBlock(x, 9, 2, fullBlock(7, 7, 30));
        Check.due("into the hole", x.save(3, name(98), 0), 0);
        Check.due("it grows", x.save(4, name(99), 0), 0);
        Check.blockIs(x, 9, 2, entries(0, 0, 4, 8, 1, 1, 99));
        Check.blockIs(x, 9, 4, fullBlock(9, 2, 20));
        Check.due("list", x.list(), 110);
    }

    /** The further block lies so on its track that writing it lies over the header of (9, 1). */
    private static void newBlockIsAheadOfTheLink() {
        Check.says("if the directory grows, the new block (empty, but for the entry) and behind it the last one of "
                + "before (with its link)");
        int[] full = fullBlock(0, 0, 10);
        String ring = Bits.over(Bits.gap(940), 0, Bits.sector(9, 1, ID, full) + Bits.sector(9, 0, ID, newMap()));
        String before = Bits.over(ring, 8 * Bits.SECTOR, Bits.ones(40) + Bits.header(9, 2, ID));
        int[] entry = entries(0, 0, 5, 8, 0, 1, 99);
        String due = Bits.over(before, 8 * Bits.SECTOR + 40 + 108, Bits.ones(40) + Bits.data(entry) + "01010101");
        Bits.due("save", () -> {
            Drive x = formatted();
            Bits.lay(x, 9, before);
            Check.due("list", x.list(), 50);
            int writes = x.count(1);
            Check.tape(x, 5, 1);
            Check.due("save", x.save(5, name(99), 0), 20);
            Check.status(x, 20, 9, 1);
            Check.due("the file's block and the new one are written", x.count(1), writes + 2);
            return x;
        }, 9, due);
    }

    /** (9, 1) lies so on its track that writing it lies over the header of the map. */
    private static void mapIsWrittenLast() {
        Check.says("then the map, in which what was taken is not FREE");
        int[] one = entries(0, 0, 5, 8, 0, 1, 99);
        for (int call = 0; call < 2; call++) {
            boolean save = call == 0;
            int[] entry = save ? new int[64] : one;
            String before = Bits.over(Bits.gap(940), 800, Bits.ones(40) + Bits.header(9, 1, ID) + Bits.ones(10)
                    + Bits.data(entry) + Bits.ones(10) + Bits.header(9, 0, ID) + Bits.ones(10) + Bits.data(newMap()));
            String due = Bits.over(before, 840 + 108,
                    Bits.ones(40) + Bits.data(save ? one : new int[64]) + "01010101");
            Bits.due(save ? "save" : "scratch", () -> {
                Drive x = formatted();
                Bits.lay(x, 9, before);
                Check.due("list", x.list(), save ? 0 : 10);
                Check.due("info", x.info(), 11);
                int answer = save ? x.save(5, name(99), 0) : x.scratch(name(99), 0);
                Check.due("answer", answer, 20);
                Check.status(x, 20, 9, 0);
                Check.due("writes", x.count(1), save ? 2 : 1);
                return x;
            }, 9, due);
        }
    }

    private static void loadOfNone() {
        Check.says("62 there is no such file");
        Drive x = formatted();
        Check.due("load", x.load(1, 1), -1);
        Check.status(x, 62, 0, 0);
        Check.due("scratch", x.scratch(1, 1), 62);
        Check.status(x, 62, 0, 0);
        for (int i = 1; i <= 6; i++) {
            x.save(1, i, 0);
        }
        Check.due("load", x.load(7, 0), -1);
        Check.status(x, 62, 0, 0);
        Check.due("load of no name", x.load(0, 0), -1);
        Check.status(x, 62, 0, 0);
        Check.due("writes", x.count(1), 19);
    }

    private static void fileLeadsToNoBlock() {
        Check.says("66, told at the directory's block with the entry for the first one, at the block ahead of others");
        int[][] none = {{0, 0}, {0, 5}, {17, 0}, {255, 255}, {1, 9}, {8, 9}, {9, 8}, {12, 8}, {13, 7}, {16, 7}};
        for (int[] at : none) {
            Drive x = formatted();
            Check.putBlock(x, 9, 1, entries(9, 6));
            Check.putBlock(x, 9, 6, entries(0, 0, 1, at[0], at[1], 1, 65, 1, 1, 0, 2, 66));
            Check.putBlock(x, 1, 0, 12, 7);
            Check.putBlock(x, 12, 7, at);
            Check.due("load", x.load(name(65), 0), -1);
            Check.status(x, 66, 9, 6);
            Check.due("scratch", x.scratch(name(65), 0), 66);
            Check.status(x, 66, 9, 6);
            boolean last = at[0] == 0;
            Check.due("load", x.load(name(66), 0), last ? 62 + at[1] : -1);
            Check.status(x, last ? 0 : 66, last ? 0 : 12, last ? 0 : 7);
            Check.due("scratch", x.scratch(name(66), 0), last ? 1 : 66);
            Check.status(x, last ? 1 : 66, last ? 2 : 12, last ? 0 : 7);
            Check.due("no error of 20 to 29", x.count(2), 0);
        }
        Drive y = formatted();
        Check.putBlock(y, 9, 1, entries(0, 0, 1, 16, 6, 1, 65));
        Check.putBlock(y, 16, 6, 0, 3, 7, 8, 9);
        Check.due("the last block of all", y.load(name(65), 0), 3);
        Check.out(y, 7, 8, 9);
    }

    private static void fileBeyondForty() {
        Check.says("or (a file) beyond 40 blocks");
        Drive x = formatted();
        Check.tape(x, 2480, 0);
        Check.due("save", x.save(1, 1, 1), 0);
        Check.due("forty blocks", x.load(1, 1), 2480);
        int[] last = Check.block(x, 4, 3);
        Check.due("the fortieth", last[1], 62);
        Check.putBlock(x, 4, 3, Check.with(last, 0, 4, 1, 4));
        Check.putBlock(x, 4, 4, 0, 0);
        int reads = x.count(0);
        Check.due("41 blocks", x.load(1, 1), -1);
        Check.status(x, 66, 4, 3);
        Check.out(x);
        Check.due("the 41st is not read", x.count(0), reads + 42);
        Check.due("41 blocks", x.scratch(1, 1), 66);
        Check.status(x, 66, 4, 3);
        Check.putBlock(x, 4, 3, Check.with(last, 0, 99));
        Check.due("no block", x.load(1, 1), -1);
        Check.status(x, 66, 4, 3);
        Check.putBlock(x, 4, 3, Check.with(last, 1, 63));
        Check.due("too many bytes", x.load(1, 1), -1);
        Check.status(x, 66, 4, 3);
        Check.putBlock(x, 4, 3, Check.with(last, 1, 1));
        Check.due("forty blocks", x.load(1, 1), 39 * 62 + 1);
        Check.putBlock(x, 8, 0, 8, 0);
        Check.due("a ring of one", x.load(1, 1), -1);
        Check.status(x, 66, 8, 0);
        Check.putBlock(x, 8, 0, 8, 1);
        Check.putBlock(x, 8, 1, 8, 2);
        Check.putBlock(x, 8, 2, 8, 0);
        Check.due("a ring of three", x.load(1, 1), -1);
        Check.status(x, 66, 8, 0);
    }

    private static void lastBlockOfTooMany() {
        Check.says("at the block itself, if its byte 0 is 0 and its byte 1 above 62");
        Drive x = formatted();
        Check.tape(x, 70, 0);
        Check.due("save", x.save(1, 1, 1), 0);
        Check.due("save", x.save(1, 2, 2), 0);
        for (int many : new int[] {62, 63, 64, 128, 255}) {
            boolean right = many == 62;
            Check.putBlock(x, 8, 1, 0, many);
            Check.due("load", x.load(1, 1), right ? 124 : -1);
            Check.status(x, right ? 0 : 66, right ? 0 : 8, right ? 0 : 1);
            Check.due("OUT", x.out(0), right ? 0 : -1);
            Check.putBlock(x, 8, 2, 0, many);
            Check.due("load", x.load(2, 2), right ? 62 : -1);
            Check.status(x, right ? 0 : 66, right ? 0 : 8, right ? 0 : 2);
            if (!right) {
                Check.due("scratch", x.scratch(1, 1), 66);
                Check.status(x, 66, 8, 1);
            }
        }
        Check.putBlock(x, 8, 2, 1, 8, 5);
        Check.due("byte 0 is not 0", x.load(2, 2), 62);
    }

    private static void loadWithErrorEmptiesOut() {
        Check.says("(With an ERROR, OUT is empty.)");
        Drive x = formatted();
        Check.tape(x, 100, 1);
        Check.due("save", x.save(1, 1, 1), 0);
        Check.due("load", x.load(1, 1), 100);
        Bits.put(x, 8, Bits.SECTOR + Bits.DATA + 650, "00000");
        Check.due("load", x.load(1, 1), -1);
        Check.status(x, 24, 8, 1);
        Check.out(x);
        Check.due("list", x.list(), 10);
        Bits.put(x, 9, Bits.SECTOR + Bits.DATA + 650, "00000");
        Check.due("list", x.list(), -1);
        Check.status(x, 24, 9, 1);
        Check.out(x);
    }

    private static void scratchClearsTheEntry() {
        Check.says("then the directory's block is written, the entry all 0");
        for (int e = 0; e < 5; e++) {
            Drive x = formatted();
            Check.putBlock(x, 9, 1, fullBlock(9, 3, 10));
            int[] second = Check.with(fullBlock(0, 0, 20), 62, 5, 63, 6);
            second[2 + 12 * e + 11] = 77;
            Check.putBlock(x, 9, 3, second);
            Check.due("scratch", x.scratch(name(20 + e), 77), 1);
            Check.status(x, 1, 1, 0);
            int[] due = second.clone();
            java.util.Arrays.fill(due, 2 + 12 * e, 14 + 12 * e, 0);
            Check.blockIs(x, 9, 3, due);
            Check.blockIs(x, 9, 1, fullBlock(9, 3, 10));
            Check.due("list", x.list(), 90);
        }
    }

    private static void scratchFreesBlocks() {
        Check.says("then the map, in which they are FREE, but those of track 9. STATUS 1, how many blocks, 0.");
        Drive x = formatted();
        int[] map = Check.with(new int[64], 5, 6, 63, 7);
        Check.putBlock(x, 9, 0, map);
        Check.putBlock(x, 9, 1, entries(0, 0, 1, 1, 8, 99, 65));
        Check.putBlock(x, 1, 8, 9, 7);
        Check.putBlock(x, 9, 7, 16, 6);
        Check.putBlock(x, 16, 6, 0, 5);
        Check.due("scratch", x.scratch(name(65), 0), 1);
        Check.status(x, 1, 3, 0);
        Check.blockIs(x, 9, 0, Check.with(map, 3, 1, 32, 64));
        Check.due("its blocks stay as they are", x.read(1, 8), 0);
        Check.due("out(0)", x.out(0), 9);
        Drive y = formatted();
        Check.putBlock(y, 9, 1, entries(0, 0, 1, 1, 8, 1, 65));
        Check.due("what is FREE already", y.scratch(name(65), 0), 1);
        Check.blockIs(y, 9, 0, newMap());
    }

    private static void scratchWithError() {
        Check.says("then its blocks are read as by load");
        Drive x = formatted();
        Check.tape(x, 130, 1);
        Check.due("save", x.save(1, 1, 1), 0);
        Bits.put(x, 8, 2 * Bits.SECTOR + Bits.DATA + 650, "00000");
        int writes = x.count(1);
        Check.due("scratch", x.scratch(1, 1), 24);
        Check.status(x, 24, 8, 2);
        Check.due("nothing is written", x.count(1), writes);
        Check.due("list", x.list(), 10);
        x.info();
        Check.due("FREE ones", x.out(10), 121);
        Check.due("write", x.write(8, 2), 0);
        Check.due("scratch", x.scratch(1, 1), 1);
        Check.status(x, 1, 3, 0);
        x.info();
        Check.due("FREE ones", x.out(10), 124);
    }

    private static void listOfAllBlocks() {
        Check.says("list: all directory's blocks are read: OUT is, for each entry that is not empty, its TYPE, how many "
                + "blocks it has, and its NAME (ten bytes)");
        Drive x = formatted();
        Check.putBlock(x, 9, 1, entries(9, 2));
        Check.putBlock(x, 9, 2, entries(9, 3, 0, 1, 1, 1, 1, 0, 1, 1, 1, 1, 0, 1, 1, 1, 1, 0, 1, 1, 1, 1, 7, 1, 1, 255, 65));
        Check.putBlock(x, 9, 3, Check.with(entries(0, 0, 8, 99, 99, 0, 66), 13, 44));
        Check.due("list", x.list(), 20);
        Check.out(x, 7, 255, 65, 0, 0, 0, 0, 0, 0, 0, 8, 0, 66, 0, 0, 0, 0, 0, 0, 44);
        Bits.put(x, 9, 3 * Bits.SECTOR + Bits.HEADER + 40, Bits.coded(0xFF));
        Check.due("list", x.list(), -1);
        Check.status(x, 27, 9, 3);
        Check.out(x);
    }
}
