/** The edges that the document's promises 1 to 12 name, a sentence at a time. */
public final class CallEdgesTest {
    private static final int LOW = Integer.MIN_VALUE;
    private static final int HIGH = Integer.MAX_VALUE;
    private static final int ID = 0x1234;

    public static void main(String[] args) {
        newObject();
        objectsAreApart();
        lastCallOfAnObject();
        feedHighestFirst();
        feedBeyondTheMost();
        endKeepsTheFirst();
        endRefused();
        formatTakesSixteenBits();
        formatEndsAnyError();
        formatMakesANewMap();
        formatLaysTracksFromBitZero();
        formatLeavesTapeAndOut();
        mountTakesSixteenBits();
        mountWhateverIsOnTheDisk();
        saveRefused();
        saveEmptiesTheTape();
        saveTypesAndNames();
        loadAnswers();
        scratchAnswers();
        listAnswers();
        infoAnswers();
        outOfNoByte();
        outOfTheLatestCall();
        statusOfNothing();
        statusOfEachCall();
        noCallThrows();
        Check.finish();
    }

    private static Drive formatted() {
        Drive x = new Drive();
        Check.due("format", x.format(ID, 0x01020304, 0x05060708), 0);
        return x;
    }

    private static void newObject() {
        Check.says("All bits 0, no ID at hand; the TAPE and OUT are empty; STATUS 0, 0, 0.");
        Drive x = new Drive();
        Check.status(x, 0, 0, 0);
        Check.out(x);
        Check.due("end(0)", x.end(0), 0);
        Check.due("end(1)", x.end(1), -1);
        for (int what = 0; what < 4; what++) {
            Check.due("count(" + what + ")", x.count(what), 0);
        }
        Check.due("read", x.read(9, 0), 74);
        Check.due("write", x.write(9, 0), 74);
        Check.status(x, 0, 0, 0);
        Check.due("save", new Drive().save(1, 1, 1), 74);
        Check.due("scratch", new Drive().scratch(1, 1), 74);
        for (int call = 0; call < 3; call++) {
            Drive y = new Drive();
            Check.due("answer", call == 0 ? y.load(1, 1) : call == 1 ? y.list() : y.info(), -1);
            Check.status(y, 74, 0, 0);
            Check.out(y);
        }
    }

    private static void objectsAreApart() {
        Check.says("A new object");
        Drive x = formatted();
        x.feed(1, 2, 3, 4, 5);
        x.info();
        x.load(1, 1);
        Drive y = new Drive();
        Check.due("its TAPE", y.count(3), 0);
        Check.due("its bits", y.peek(1, 0), 0);
        Check.due("its ID", y.read(1, 1), 74);
        Check.status(y, 0, 0, 0);
        y.format(1, 1, 1);
        y.feed(9, 9, 9, 9, 9);
        Check.due("save", y.save(1, 1, 1), 0);
        Check.due("the other one's TAPE", x.count(3), 20);
        Check.due("the other one's file", x.load(1, 1), -1);
        Check.status(x, 62, 0, 0);
    }

    private static void lastCallOfAnObject() {
        Check.says("An object is used for at most 512 calls after it has been made");
        Drive x = formatted();
        Check.tape(x, 2480, 6);
        Check.due("save", x.save(1, 1, 1), 0);
        while (x.calls() < Drive.MOST_CALLS - 3) {
            Check.due("turn", x.turn(9, 7), 1);
        }
        Check.due("list", x.list(), 10);
        Check.due("load", x.load(1, 1), 2480);
        Check.due("the last call", x.out(2479), Check.fileByte(2479, 6));
        Drive y = formatted();
        while (y.calls() < Drive.MOST_CALLS - 1) {
            y.scratch(1, 1);
        }
        Check.due("the last call", y.count(0), 2 * (Drive.MOST_CALLS - 2));
    }

    private static void feedHighestFirst() {
        Check.says("Twenty bytes more of the TAPE, the highest of each number first: how many it has.");
        Drive x = formatted();
        Check.due("feed", x.feed(0x80FF7F01, LOW, HIGH, -1, 0x00000100), 20);
        Check.due("feed", x.feed(0x11121314, 0x21222324, 0x31323334, 0x41424344, 0x51525354), 40);
        Check.due("write", x.write(1, 1), 0);
        Check.blockIs(x, 1, 1, 0x80, 0xFF, 0x7F, 1, 0x80, 0, 0, 0, 0x7F, 255, 255, 255, 255, 255, 255, 255, 0, 0, 1, 0,
                0x11, 0x12, 0x13, 0x14, 0x21, 0x22, 0x23, 0x24, 0x31, 0x32, 0x33, 0x34, 0x41, 0x42, 0x43, 0x44, 0x51,
                0x52, 0x53, 0x54);
    }

    private static void feedBeyondTheMost() {
        Check.says("-1, and nothing is done: they would be more than 2480.");
        Drive x = formatted();
        for (int n = 20; n <= 2480; n += 20) {
            Check.due("feed", x.feed(n, n, n, n, n), n);
        }
        Check.due("feed", x.feed(-1, -1, -1, -1, -1), -1);
        Check.due("count(3)", x.count(3), 2480);
        for (int n : new int[] {2479, 2470, 2461}) {
            Check.due("end", x.end(n), n);
            Check.due("feed onto " + n, x.feed(-1, -1, -1, -1, -1), -1);
            Check.due("count(3)", x.count(3), n);
        }
        Check.due("end", x.end(2460), 2460);
        Check.due("feed", x.feed(7, 7, 7, 7, 7), 2480);
        Check.due("feed", x.feed(-1, -1, -1, -1, -1), -1);
        Check.due("save", x.save(1, 1, 1), 0);
        Check.due("load", x.load(1, 1), 2480);
        Check.due("out(2459)", x.out(2459), 2460 & 255);
        Check.due("out(2463)", x.out(2463), 7);
        Check.due("out(2479)", x.out(2479), 7);
        Check.due("feed", x.feed(1, 1, 1, 1, 1), 20);
    }

    private static void endKeepsTheFirst() {
        Check.says("The TAPE keeps its first n bytes: n.");
        Drive x = formatted();
        Check.tape(x, 60, 9);
        Check.due("end(60)", x.end(60), 60);
        Check.due("end(41)", x.end(41), 41);
        Check.due("end(41)", x.end(41), 41);
        Check.due("end(3)", x.end(3), 3);
        Check.due("feed", x.feed(-1, 0, 0, 0, 0), 23);
        Check.due("write", x.write(1, 1), 0);
        Check.blockIs(x, 1, 1, 9, 16, 23, 255, 255, 255, 255);
        x.feed(1, 1, 1, 1, 1);
        Check.due("end(0)", x.end(0), 0);
        Check.due("count(3)", x.count(3), 0);
    }

    private static void endRefused() {
        Check.says("-1, and nothing is done: it has not so many, or n is below 0.");
        Drive x = new Drive();
        Check.due("an empty TAPE", x.end(0), 0);
        for (int n : new int[] {1, 20, -1, LOW, HIGH}) {
            Check.due("end(" + n + ")", x.end(n), -1);
            Check.due("count(3)", x.count(3), 0);
        }
        x.feed(1, 2, 3, 4, 5);
        for (int n : new int[] {21, 2480, -1, -20, LOW, HIGH}) {
            Check.due("end(" + n + ")", x.end(n), -1);
            Check.due("count(3)", x.count(3), 20);
        }
        Check.due("end(19)", x.end(19), 19);
        Check.due("what is gone does not come back", x.end(20), -1);
    }

    private static void formatTakesSixteenBits() {
        Check.says("the two bytes of an ID (the lowest 16 bits of id, the higher byte first) and a NAME (the eight "
                + "bytes of a and b, the highest first)");
        for (int id : new int[] {0, 1, 0xFFFF, -1, LOW, HIGH, 0x10000, 0x12348001, 0xFF00}) {
            for (int a : new int[] {0, -1, 0x81020304}) {
                Drive x = new Drive();
                Check.due("format", x.format(id, a, ~a), 0);
                Check.due("info", x.info(), 11);
                int b = ~a;
                Check.out(x, a >>> 24, a >> 16 & 255, a >> 8 & 255, a & 255, b >>> 24, b >> 16 & 255, b >> 8 & 255,
                        b & 255, id >> 8 & 255, id & 255, 124);
                Check.blockIs(x, 9, 0, Check.newMap(id, a, b));
                x.mount(id & 0xFFFF);
                Check.due("read", x.read(1, 1), 0);
            }
        }
    }

    private static void formatEndsAnyError() {
        Check.says("No ERROR.");
        Drive x = new Drive();
        x.info();
        Check.status(x, 74, 0, 0);
        Check.due("format", x.format(ID, 0, 0), 0);
        Check.status(x, 0, 0, 0);
        for (int t = 1; t <= 16; t++) {
            Bits.lay(x, t, Bits.ones(8 * 12));
            x.turn(t, 1000);
        }
        x.mount(77);
        Check.due("list", x.list(), -1);
        Check.due("format", x.format(ID, 0, 0), 0);
        Check.status(x, 0, 0, 0);
        Check.due("list", x.list(), 0);
        Check.due("save", x.save(1, 1, 1), 0);
        Check.due("scratch", x.scratch(1, 1), 1);
        Check.due("format", x.format(ID, 0, 0), 0);
        Check.status(x, 0, 0, 0);
    }

    private static void formatMakesANewMap() {
        Check.says("bytes 40 to 47 are the disk's NAME, bytes 48, 49 the ID; all others are 0");
        int[] filled = new int[64];
        java.util.Arrays.fill(filled, 0xEE);
        Drive x = formatted();
        Check.putBlock(x, 9, 1, 0, 0, 1, 1, 1, 1, 1);
        Check.putBlock(x, 9, 0, filled);
        Check.due("info", x.info(), 11);
        Check.due("format", x.format(ID, 1, 2), 0);
        Check.blockIs(x, 9, 0, Check.newMap(ID, 1, 2));
        Check.blockIs(x, 9, 1);
        Check.due("save", x.save(1, 1, 1), 0);
        Check.due("format", x.format(ID + 1, 3, 4), 0);
        Check.blockIs(x, 9, 0, Check.newMap(ID + 1, 3, 4));
        Check.due("list", x.list(), 0);
    }

    private static void formatLaysTracksFromBitZero() {
        Check.says("each track is written anew from bit 0 on: sector by sector 40 bits 1, the header coded, 6 bytes 85, "
                + "40 bits 1, DATA of 64 bytes 0 coded, 8 bytes 85; and bytes 85 up to its end");
        for (int t = 1; t <= 16; t++) {
            int track = t;
            String due = Bits.track(t, ID);
            if (t == 9) {
                due = Bits.over(due, Bits.DATA, Bits.data(Check.newMap(ID, 1, 2)));
            }
            Bits.due("format of all 0", () -> {
                Drive x = new Drive();
                x.format(ID, 1, 2);
                return x;
            }, t, due);
            Bits.due("format of what was there", () -> {
                Drive x = new Drive();
                x.format(~ID, 3, 4);
                Check.tape(x, 200, 1);
                x.save(3, 3, 3);
                x.turn(track, 12345);
                x.stamp(track, Bits.size(track) - 1, -1);
                x.poke(track, Bits.size(track) - 20, 7);
                x.format(ID, 1, 2);
                return x;
            }, t, due);
        }
    }

    private static void formatLeavesTapeAndOut() {
        Check.says("(OUT is of the latest load, list, info, read; empty, if that had an ERROR.)");
        Drive x = formatted();
        Check.tape(x, 25, 4);
        x.info();
        x.format(5, 6, 7);
        Check.due("the TAPE stays", x.count(3), 25);
        Check.due("OUT stays", x.out(7), 8);
        Check.due("OUT stays", x.out(10), 124);
        Check.due("save", x.save(1, 1, 1), 0);
        Check.due("load", x.load(1, 1), 25);
        Check.due("out(24)", x.out(24), Check.fileByte(24, 4));
    }

    private static void mountTakesSixteenBits() {
        Check.says("the ID AT HAND becomes one that is told");
        Drive x = formatted();
        for (int id : new int[] {ID, ID | 0x10000, ID | LOW, ID | 0xFFFF0000, ID | 0x7FFF0000}) {
            Check.due("mount(" + id + ")", x.mount(id), 0);
            Check.due("info", x.info(), 11);
        }
        for (int id : new int[] {0, -1, LOW, HIGH, ID + 1, ID << 16}) {
            Check.due("mount(" + id + ")", x.mount(id), 0);
            Check.status(x, 0, 0, 0);
            Check.due("info", x.info(), -1);
            Check.status(x, 29, 9, 0);
        }
    }

    private static void mountWhateverIsOnTheDisk() {
        Check.says("whatever is on the disk (as for a disk from elsewhere). STATUS 0.");
        Drive x = new Drive();
        Check.due("save", x.save(1, 1, 1), 74);
        Check.due("mount", x.mount(9), 0);
        Check.status(x, 0, 0, 0);
        Check.due("save", x.save(1, 1, 1), 21);
        Check.status(x, 21, 9, 0);
        Bits.lay(x, 9, Bits.sector(9, 0, 9, Check.newMap(9, 1, 2)) + Bits.sector(9, 1, 9));
        Bits.lay(x, 8, Bits.sector(8, 0, 9));
        Check.due("a disk laid bit by bit", x.save(1, 1, 1), 0);
        Check.due("list", x.list(), 10);
        Check.due("load", x.load(1, 1), 0);
        Check.due("mount", x.mount(8), 0);
        Check.due("list", x.list(), -1);
        Check.status(x, 29, 9, 0);
        Check.due("mount", x.mount(9), 0);
        Check.due("list", x.list(), 10);
    }

    private static void saveRefused() {
        Check.says("-1, and nothing else is done: type is not 1 .. 9, or a and b are 0.");
        Drive x = formatted();
        x.load(4, 4);
        x.read(9, 0);
        int[][] wrong = {{0, 1, 1}, {10, 1, 1}, {-1, 1, 1}, {LOW, 1, 1}, {HIGH, 1, 1}, {257, 1, 1}, {1, 0, 0}, {9, 0, 0},
            {0, 0, 0}};
        for (int[] args : wrong) {
            Check.tape(x, 3, 1);
            Check.due("save(" + args[0] + ", " + args[1] + ", " + args[2] + ")", x.save(args[0], args[1], args[2]), -1);
            Check.due("the TAPE is empty in any case", x.count(3), 0);
        }
        Check.status(x, 62, 0, 0);
        Check.due("OUT stays", x.out(0), 9);
        Check.due("nothing was read but by load and read", x.count(0), 3);
        Check.due("nothing was written", x.count(1), 0);
        Check.due("list", x.list(), 0);
        Drive y = new Drive();
        Check.due("with no ID", y.save(0, 1, 1), -1);
        Check.due("with no ID", y.save(1, 0, 0), -1);
        Check.status(y, 0, 0, 0);
    }

    private static void saveEmptiesTheTape() {
        Check.says("the TAPE (which is empty then in any case)");
        Drive x = new Drive();
        Check.tape(x, 30, 1);
        Check.due("save", x.save(1, 1, 1), 74);
        Check.due("count(3)", x.count(3), 0);
        x.mount(1);
        Check.tape(x, 30, 1);
        Check.due("save", x.save(1, 1, 1), 21);
        Check.due("count(3)", x.count(3), 0);
        x.format(1, 1, 1);
        Check.tape(x, 30, 1);
        Check.due("save", x.save(1, 1, 1), 0);
        Check.due("count(3)", x.count(3), 0);
        Check.tape(x, 30, 1);
        Check.due("save", x.save(1, 1, 1), 63);
        Check.due("count(3)", x.count(3), 0);
        Check.putBlock(x, 9, 0, Check.with(new int[64], 0, 9, 1, 1));
        Check.tape(x, 30, 1);
        Check.due("save", x.save(1, 2, 1), 72);
        Check.due("count(3)", x.count(3), 0);
        Check.putBlock(x, 9, 1, 99, 99);
        Check.tape(x, 30, 1);
        Check.due("save", x.save(1, 2, 1), 66);
        Check.due("count(3)", x.count(3), 0);
    }

    private static void saveTypesAndNames() {
        Check.says("A NAME is eight bytes, any but that all are 0. TYPES are 1 to 9.");
        int[][] names = {{0, 1}, {1, 0}, {-1, -1}, {LOW, 0}, {0, LOW}, {HIGH, HIGH}, {0x01000000, 0}, {0, 0x01000000},
            {0x20202020, 0x20202020}};
        Drive x = formatted();
        for (int i = 0; i < names.length; i++) {
            Check.due("save", x.save(i + 1, names[i][0], names[i][1]), 0);
        }
        Check.due("list", x.list(), 10 * names.length);
        for (int i = 0; i < names.length; i++) {
            Check.due("type", x.out(10 * i), i + 1);
            for (int k = 0; k < 8; k++) {
                Check.due("byte " + k + " of the name", x.out(10 * i + 2 + k), names[i][k / 4] >>> 24 - 8 * (k % 4) & 255);
            }
        }
        for (int[] name : names) {
            Check.due("load", x.load(name[0], name[1]), 0);
            Check.due("save again", x.save(1, name[0], name[1]), 63);
        }
    }

    private static void loadAnswers() {
        Check.says("Answers how many bytes; -1 with an ERROR.");
        for (int many : new int[] {0, 1, 61, 62, 63, 123, 124, 125, 2479, 2480}) {
            Drive x = formatted();
            Check.tape(x, many, 8);
            Check.due("save", x.save(1, 1, 1), 0);
            Check.due("load of " + many, x.load(1, 1), many);
            Check.due("end of OUT", x.out(many), -1);
            Check.due("the last byte", x.out(many - 1), many == 0 ? -1 : Check.fileByte(many - 1, 8));
            for (int i = 0; i < many; i += Math.max(1, many / 100)) {
                Check.due("out(" + i + ") of " + many, x.out(i), Check.fileByte(i, 8));
            }
        }
        Drive x = formatted();
        Check.due("load of none", x.load(1, 1), -1);
        Check.due("load of no name", x.load(0, 0), -1);
        Check.status(x, 62, 0, 0);
    }

    private static void scratchAnswers() {
        Check.says("scratch. Answers the STATUS' number.");
        for (int many : new int[] {0, 62, 63, 2480}) {
            Drive x = formatted();
            Check.tape(x, many, 8);
            Check.due("save", x.save(1, 1, 1), 0);
            Check.due("scratch", x.scratch(1, 1), 1);
            Check.status(x, 1, Math.max(1, (many + 61) / 62), 0);
            Check.due("scratch again", x.scratch(1, 1), 62);
            Check.status(x, 62, 0, 0);
            Check.due("scratch of no name", x.scratch(0, 0), 62);
            x.mount(1);
            Check.due("scratch", x.scratch(1, 1), 29);
            Check.status(x, 29, 9, 0);
        }
        Check.due("scratch", new Drive().scratch(0, 0), 74);
    }

    private static void listAnswers() {
        Check.says("list. Answers how many bytes; -1 with an ERROR.");
        Drive x = formatted();
        Check.due("list of none", x.list(), 0);
        Check.out(x);
        for (int i = 1; i <= 35; i++) {
            Check.due("save", x.save(1 + i % 9, i, -i), 0);
            Check.due("list", x.list(), 10 * i);
            Check.due("the last one's name", x.out(10 * i - 5), i);
            Check.due("end of OUT", x.out(10 * i), -1);
        }
        Check.due("a full directory", x.save(1, 36, 36), 72);
        Check.due("list", x.list(), 350);
        x.mount(1);
        Check.due("list", x.list(), -1);
        Check.out(x);
    }

    private static void infoAnswers() {
        Check.says("OUT is the disk's NAME and ID and how many blocks are FREE (but of track 9): eleven bytes.");
        Drive x = formatted();
        Check.due("info", x.info(), 11);
        Check.out(x, 1, 2, 3, 4, 5, 6, 7, 8, 0x12, 0x34, 124);
        int[] map = Check.newMap(ID, 0, 0);
        for (int t = 1; t <= 16; t++) {
            int[] one = Check.with(new int[64], 2 * t, 255, 2 * t + 1, 255);
            Check.putBlock(x, 9, 0, one);
            Check.due("info", x.info(), 11);
            Check.due("FREE ones of track " + t, x.out(10), t == 9 ? 0 : Bits.sectors(t));
        }
        Check.putBlock(x, 9, 0, Check.with(map, 18, 0, 19, 255));
        Check.due("info", x.info(), 11);
        Check.out(x, 0, 0, 0, 0, 0, 0, 0, 0, 0x12, 0x34, 124);
        Check.putBlock(x, 9, 0, Check.with(new int[64], 47, 255, 48, 254, 49, 253, 50, 9, 39, 9, 0, 255, 1, 255, 34, 255));
        Check.due("info", x.info(), 11);
        Check.out(x, 0, 0, 0, 0, 0, 0, 0, 255, 254, 253, 0);
        Bits.put(x, 9, Bits.DATA + 10, "00000");
        Check.due("info", x.info(), -1);
        Check.status(x, 24, 9, 0);
        Check.out(x);
    }

    private static void outOfNoByte() {
        Check.says("The i-th byte of OUT (from 0), -1 if there is none.");
        Drive x = formatted();
        for (int i : new int[] {0, -1, 1, LOW, HIGH}) {
            Check.due("out(" + i + ") of an empty OUT", x.out(i), -1);
        }
        x.info();
        for (int i : new int[] {-1, 11, 12, 63, 2480, LOW, HIGH}) {
            Check.due("out(" + i + ") of eleven", x.out(i), -1);
        }
        Check.due("out(0)", x.out(0), 1);
        Check.due("out(10)", x.out(10), 124);
        x.read(9, 0);
        Check.due("out(63)", x.out(63), 0);
        Check.due("out(64)", x.out(64), -1);
        x.info();
        Check.due("a shorter OUT", x.out(11), -1);
        Check.tape(x, 2480, 3);
        x.save(1, 1, 1);
        x.load(1, 1);
        Check.due("out(2479)", x.out(2479), Check.fileByte(2479, 3));
        Check.due("out(2480)", x.out(2480), -1);
    }

    private static void outOfTheLatestCall() {
        Check.says("(OUT is of the latest load, list, info, read; empty, if that had an ERROR.)");
        Drive x = formatted();
        Check.tape(x, 5, 50);
        x.save(1, 1, 1);
        for (int call = 0; call < 4; call++) {
            x.info();
            Check.due("answer", call == 0 ? x.load(2, 2) : call == 1 ? x.read(1, 9) : call == 2 ? x.load(1, 1) : x.list(),
                    call == 0 ? -1 : call == 1 ? 66 : call == 2 ? 5 : 10);
            Check.due("out(0)", x.out(0), call < 2 ? -1 : call == 2 ? 50 : 1);
            Check.due("out(10)", x.out(10), -1);
        }
        x.info();
        x.feed(1, 1, 1, 1, 1);
        x.end(3);
        x.save(1, 2, 2);
        x.save(1, 2, 2);
        x.save(0, 2, 2);
        x.scratch(2, 2);
        x.scratch(2, 2);
        x.write(1, 1);
        x.write(1, 9);
        x.poke(1, 1, 1);
        x.stamp(1, 1, 1);
        x.turn(1, 1);
        x.syncs(1);
        x.mount(1);
        x.scratch(1, 1);
        x.save(1, 3, 3);
        Check.out(x, 1, 2, 3, 4, 5, 6, 7, 8, 0x12, 0x34, 123);
        for (int call = 0; call < 4; call++) {
            x.mount(ID);
            x.info();
            x.mount(1);
            Check.due("answer", call == 0 ? x.load(1, 1) : call == 1 ? x.list() : call == 2 ? x.info() : x.read(1, 1),
                    call == 3 ? 29 : -1);
            Check.out(x);
        }
    }

    private static void statusOfNothing() {
        Check.says("what = 0 its number, 1 the track (how many), 2 the sector; -1 for others.");
        Drive x = formatted();
        for (int what : new int[] {-1, 3, 4, LOW, HIGH, 256}) {
            Check.due("status(" + what + ")", x.status(what), -1);
        }
        Bits.put(x, 9, Bits.SECTOR + Bits.DATA + 20, "00000");
        x.list();
        Check.due("status(0)", x.status(0), 24);
        Check.due("status(1)", x.status(1), 9);
        Check.due("status(2)", x.status(2), 1);
        Check.due("status(3)", x.status(3), -1);
    }

    private static void statusOfEachCall() {
        Check.says("else STATUS is 0, 0, 0 (but 1, how many, 0 of scratch)");
        Drive x = formatted();
        for (int call = 0; call < 7; call++) {
            x.mount(1);
            Check.due("list", x.list(), -1);
            Check.status(x, 29, 9, 0);
            if (call < 6) {
                x.mount(ID);
                x.load(8, 8);
                Check.status(x, 62, 0, 0);
            }
            int answer = call == 0 ? x.info() : call == 1 ? x.list() : call == 2 ? x.save(1, 1, 1)
                    : call == 3 ? x.load(1, 1) : call == 4 ? x.scratch(1, 1) : call == 5 ? x.format(ID, 1, 1) : x.mount(2);
            Check.due("answer of call " + call, answer, call == 0 ? 11 : call == 4 ? 1 : 0);
            Check.status(x, call == 4 ? 1 : 0, call == 4 ? 1 : 0, 0);
        }
        Drive y = formatted();
        y.save(1, 1, 1);
        y.scratch(1, 1);
        Check.status(y, 1, 1, 0);
        y.info();
        Check.status(y, 0, 0, 0);
    }

    /** Each call with each mix of far arguments, on disks of each kind. */
    private static void noCallThrows() {
        Check.says("No call may ever throw or fail to end, for any arguments in any state");
        int[] far = {LOW, LOW + 1, -1, 0, 1, 9, 16, 17, 939, 940, 1059, 1060, HIGH - 1, HIGH};
        for (int disk = 0; disk < 5; disk++) {
            for (int a : far) {
                Drive x = madeAs(disk);
                for (int b : far) {
                    x.feed(a, b, a, b, a);
                    x.end(b);
                    x.save(a, b, b);
                    x.save(1, a, b);
                    x.load(a, b);
                    x.scratch(a, b);
                    x.peek(a, b);
                    x.poke(a, b, a);
                    x.stamp(a, b, b);
                    x.turn(a, b);
                    x.syncs(a);
                    x.read(a, b);
                    x.write(a, b);
                    x.out(b);
                    x.status(b);
                    x.count(b);
                    x.list();
                    x.info();
                }
                x.mount(a);
                x.info();
                Check.due("format", x.format(a, a, a), 0);
                Check.due("info", x.info(), 11);
            }
        }
    }

    private static Drive madeAs(int disk) {
        Drive x = disk == 1 ? formatted() : new Drive();
        if (disk > 1) {
            x.mount(0x55AA);
            int[] rows = {-1, 0x55555555, 0x00FFE000};
            for (int i = 0; i < 936; i += 4) {
                x.stamp(9, i, rows[disk - 2]);
            }
        }
        return x;
    }
}
