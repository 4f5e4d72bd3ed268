/**
 * A disk drive down to the bits: rings of bits, blocks found by their marks, and files in chains
 * over them. The document's numbered promises say what each call answers.
 *
 * <p>Every row is made in a constructor and used again, so that no call makes an object.
 */
public final class BitDrive {
    private static final int NONE = -1;
    private static final int NO_CODE = -1;

    private static final int NO_HEADER = 20;
    private static final int NO_SYNC = 21;
    private static final int NO_DATA = 22;
    private static final int DATA_SUM = 23;
    private static final int DATA_CODE = 24;
    private static final int HEADER_SUM = 27;
    private static final int OTHER_ID = 29;
    private static final int SCRATCHED = 1;
    private static final int NO_FILE = 62;
    private static final int FILE_IS_THERE = 63;
    private static final int BAD_CHAIN = 66;
    private static final int NO_ROOM = 72;
    private static final int NO_ID = 74;

    private static final int TRACKS = 16;
    private static final int SYNC_BITS = 10;
    private static final int CODED_BITS = 10;
    private static final int HEADER_MARK = 8;
    private static final int DATA_MARK = 7;
    private static final int GAP = 85;
    private static final int WRITTEN_SYNC_BYTES = 5;
    private static final int HEADER_TO_SYNC = 108;
    private static final int SECTOR_BYTES = 114;
    private static final int BLOCK_BYTES = 64;

    private static final int SYSTEM_TRACK = 9;
    private static final int MAP_SECTOR = 0;
    private static final int DIRECTORY_SECTOR = 1;
    private static final int MAP_NAME = 40;
    private static final int MAP_ID = 48;
    private static final int NAME_BYTES = 8;
    private static final int FIRST_ENTRY = 2;
    private static final int ENTRY_BYTES = 12;
    private static final int ENTRIES_END = 62;
    private static final int DIRECTORY_BLOCKS = 7;
    private static final int FILE_BLOCKS = 40;
    private static final int FILE_BYTES = 62;
    private static final int TAPE_BYTES = FILE_BLOCKS * FILE_BYTES;
    private static final int FEED_BYTES = 20;
    private static final int MOST_TYPE = 9;

    /** The five bits for each half of a byte. */
    private static final int[] FIVES = {10, 11, 18, 19, 14, 15, 22, 23, 9, 25, 26, 27, 13, 29, 30, 21};

    /** The half of a byte for each five bits, or NO_CODE. */
    private static final int[] HALVES = {
        -1, -1, -1, -1, -1, -1, -1, -1, -1, 8, 0, 1, -1, 12, 4, 5,
        -1, -1, 2, 3, -1, 15, 6, 7, -1, 9, 10, 11, -1, 13, 14, -1
    };

    /** The tracks from which a file's blocks are taken, in that order. */
    private static final int[] FILE_TRACKS = {8, 7, 6, 5, 4, 3, 2, 1, 10, 11, 12, 13, 14, 15, 16};

    private final Status report;
    private final Blocks blocks;
    private final FreeMap map;
    private final Directory directory;
    private final Chain chain;
    private final Bytes tape;
    private final Bytes output;
    private final Bytes nowhere;
    private final int[] block;
    private final int[] spare;

    public BitDrive() {
        report = new Status();
        blocks = new Blocks(report);
        map = new FreeMap();
        directory = new Directory(blocks, report);
        chain = new Chain(blocks, report);
        tape = new Bytes(TAPE_BYTES);
        output = new Bytes(TAPE_BYTES);
        nowhere = new Bytes(0);
        block = new int[BLOCK_BYTES];
        spare = new int[Ring.sizeOf(1)];
    }

    public int feed(int a, int b, int c, int d, int e) {
        if (tape.length + FEED_BYTES > TAPE_BYTES) {
            return -1;
        }
        tape.addNumber(a);
        tape.addNumber(b);
        tape.addNumber(c);
        tape.addNumber(d);
        tape.addNumber(e);
        return tape.length;
    }

    public int end(int n) {
        if (n < 0 || n > tape.length) {
            return -1;
        }
        tape.length = n;
        return n;
    }

    public int format(int id, int a, int b) {
        blocks.id = id & 0xFFFF;
        blocks.formatTracks();
        map.fillNew(blocks.id, a, b);
        blocks.layFormatted(SYSTEM_TRACK, MAP_SECTOR, map.row);
        return report.tell(0, 0, 0);
    }

    public int mount(int id) {
        blocks.id = id & 0xFFFF;
        return report.tell(0, 0, 0);
    }

    public int save(int type, int a, int b) {
        if (type < 1 || type > MOST_TYPE || (a == 0 && b == 0)) {
            tape.length = 0;
            return -1;
        }
        int error = lookFor(a, b);
        if (error == 0 && directory.entry != NONE) {
            error = report.tell(FILE_IS_THERE, directory.track, directory.sector);
        }
        if (error == 0 && !takeRoom()) {
            error = report.tell(NO_ROOM, 0, 0);
        }
        if (error == 0) {
            error = chain.store(tape);
        }
        if (error == 0) {
            error = storeEntry(type, a, b);
        }
        if (error == 0) {
            error = blocks.store(SYSTEM_TRACK, MAP_SECTOR, map.row);
        }
        tape.length = 0;
        return error;
    }

    public int load(int a, int b) {
        output.length = 0;
        int error = lookFor(a, b);
        if (error == 0) {
            error = chain.follow(directory, output);
        }
        return outputOr(error);
    }

    public int scratch(int a, int b) {
        int error = lookFor(a, b);
        if (error == 0) {
            error = chain.follow(directory, nowhere);
        }
        if (error == 0) {
            error = directory.storeWithoutEntry();
        }
        if (error == 0) {
            chain.release(map);
            error = blocks.store(SYSTEM_TRACK, MAP_SECTOR, map.row);
        }
        return error == 0 ? report.tell(SCRATCHED, chain.length, 0) : error;
    }

    public int list() {
        output.length = 0;
        int error = openDisk();
        if (error == 0) {
            error = directory.begin();
        }
        for (int i = 0; i < DIRECTORY_BLOCKS && error == 0; i++) {
            directory.addEntries(output);
            if (directory.isLast()) {
                break;
            }
            error = directory.step();
        }
        return outputOr(error);
    }

    public int info() {
        output.length = 0;
        int error = openDisk();
        if (error == 0) {
            output.addRow(map.row, MAP_NAME, NAME_BYTES);
            output.addRow(map.row, MAP_ID, 2);
            output.add(map.freeBlocks());
        }
        return outputOr(error);
    }

    public int out(int i) {
        return output.byteAt(i);
    }

    public int status(int what) {
        switch (what) {
            case 0: return report.number;
            case 1: return report.track;
            case 2: return report.sector;
            default: return -1;
        }
    }

    public int peek(int track, int i) {
        Ring ring = blocks.ringOf(track);
        return ring == null || !ring.hasByte(i) ? -1 : ring.byteAt(i);
    }

    public int poke(int track, int i, int v) {
        Ring ring = blocks.ringOf(track);
        if (ring == null || !ring.hasByte(i)) {
            return -1;
        }
        int before = ring.byteAt(i);
        ring.putBits(8 * i, 8, v);
        return before;
    }

    public int stamp(int track, int i, int v) {
        Ring ring = blocks.ringOf(track);
        if (ring == null || !ring.hasByte(i)) {
            return -1;
        }
        ring.putBits(8 * i, 16, v >>> 16);
        ring.putBits(8 * i + 16, 16, v);
        return 1;
    }

    public int turn(int track, int n) {
        Ring ring = blocks.ringOf(track);
        if (ring == null) {
            return -1;
        }
        ring.rotate(n, spare);
        return 1;
    }

    public int syncs(int track) {
        Ring ring = blocks.ringOf(track);
        return ring == null ? -1 : ring.findSyncs();
    }

    public int read(int track, int sector) {
        output.length = 0;
        int error = blocks.readBlock(track, sector, block);
        if (error == 0) {
            output.addRow(block, 0, BLOCK_BYTES);
        }
        return error;
    }

    public int write(int track, int sector) {
        for (int i = 0; i < BLOCK_BYTES; i++) {
            block[i] = Math.max(0, tape.byteAt(i));
        }
        tape.length = 0;
        return blocks.writeBlock(track, sector, block);
    }

    public int count(int what) {
        switch (what) {
            case 0: return blocks.reads;
            case 1: return blocks.writes;
            case 2: return blocks.faults;
            case 3: return tape.length;
            default: return -1;
        }
    }

    /** What each call on the disk begins with: the map is read. */
    private int openDisk() {
        report.tell(0, 0, 0);
        if (blocks.id == NONE) {
            return report.tell(NO_ID, 0, 0);
        }
        return blocks.fetch(SYSTEM_TRACK, MAP_SECTOR, map.row);
    }

    /** Opens the disk and reads its directory up to the entry of that name, or to its end. */
    private int lookFor(int a, int b) {
        int error = openDisk();
        if (error == 0) {
            error = directory.begin();
        }
        for (int i = 0; i < DIRECTORY_BLOCKS && error == 0; i++) {
            if (directory.findEntry(a, b) || directory.isLast()) {
                return 0;
            }
            error = directory.step();
        }
        return error;
    }

    private int outputOr(int error) {
        if (error != 0) {
            output.length = 0;
            return -1;
        }
        return output.length;
    }

    /** Takes from the map what the TAPE and its entry need; false if it is not there. */
    private boolean takeRoom() {
        return directory.takeEntry(map) && chain.take(map, blocksNeeded(tape.length));
    }

    private int storeEntry(int type, int a, int b) {
        fillEntry(directory.roomRow, directory.room, type, a, b);
        int error = blocks.store(directory.roomTrack, directory.roomSector, directory.roomRow);
        return error == 0 && directory.grows ? directory.storeLink() : error;
    }

    private void fillEntry(int[] row, int at, int type, int a, int b) {
        if (at < FIRST_ENTRY || at + ENTRY_BYTES > row.length) {
            return;
        }
        row[at] = type;
        row[at + 1] = chain.tracks[0];
        row[at + 2] = chain.sectors[0];
        row[at + 3] = chain.length;
        fillName(row, at + 4, a, b);
    }

    private static int blocksNeeded(int bytes) {
        return Math.max(1, (bytes + FILE_BYTES - 1) / FILE_BYTES);
    }

    private static int nameByte(int a, int b, int i) {
        return (i < 4 ? a : b) >>> (24 - 8 * (i % 4)) & 255;
    }

    private static void fillName(int[] row, int at, int a, int b) {
        for (int i = 0; i < NAME_BYTES; i++) {
            row[at + i] = nameByte(a, b, i);
        }
    }

    private static boolean hasName(int[] row, int at, int a, int b) {
        for (int i = 0; i < NAME_BYTES; i++) {
            if (row[at + i] != nameByte(a, b, i)) {
                return false;
            }
        }
        return true;
    }

    private static void clearRow(int[] row, int from, int bytes) {
        for (int i = from; i < from + bytes && i < row.length; i++) {
            row[i] = 0;
        }
    }

    /** STATUS: what became of the latest call on the disk. */
    private static final class Status {
        int number;
        int track;
        int sector;

        /** Answers the number, so that a failing step can end with it. */
        int tell(int newNumber, int newTrack, int newSector) {
            number = newNumber;
            track = newTrack;
            sector = newSector;
            return newNumber;
        }
    }

    /** A row of bytes that grows from its start up to a most: the TAPE, or OUT. */
    private static final class Bytes {
        final int[] row;
        int length;

        Bytes(int most) {
            row = new int[Math.max(0, most)];
        }

        void add(int v) {
            if (length < row.length) {
                row[length] = v & 255;
                length++;
            }
        }

        void addNumber(int v) {
            add(v >>> 24);
            add(v >>> 16);
            add(v >>> 8);
            add(v);
        }

        void addRow(int[] from, int at, int bytes) {
            for (int i = at; i < at + bytes && i < from.length; i++) {
                add(from[i]);
            }
        }

        int byteAt(int i) {
            return i >= 0 && i < length ? row[i] : -1;
        }
    }

    /** The bits of one track, held as its bytes. */
    private static final class Ring {
        final int[] row;
        final int bits;

        /** Where what is coded behind each sync begins; right while known is true. */
        final int[] starts;
        int found;
        boolean known;

        Ring(int size) {
            int bytes = Math.max(3, size);
            row = new int[bytes];
            bits = 8 * bytes;
            starts = new int[bits / (SYNC_BITS + 1)];
        }

        static int sizeOf(int track) {
            return track <= 8 ? 1060 : track <= 12 ? 940 : 830;
        }

        boolean hasByte(int i) {
            return i >= 0 && i < row.length;
        }

        int byteAt(int i) {
            return hasByte(i) ? row[i] : 0;
        }

        int startOf(int sync) {
            return sync >= 0 && sync < found ? starts[sync] : 0;
        }

        /** Puts the lowest bits of a value, at most sixteen, from a bit (0 or above) of the ring on. */
        void putBits(int at, int width, int value) {
            int place = at % bits;
            int i = place / 8;
            int j = (i + 1) % row.length;
            int k = (i + 2) % row.length;
            int shift = 24 - place % 8 - width;
            int mask = ((1 << width) - 1) << shift;
            int three = (row[i] << 16 | row[j] << 8 | row[k]) & ~mask | value << shift & mask;
            row[i] = three >> 16 & 255;
            row[j] = three >> 8 & 255;
            row[k] = three & 255;
            known = false;
        }

        void putCoded(int at, int v) {
            putBits(at, CODED_BITS, FIVES[v >> 4 & 15] << 5 | FIVES[v & 15]);
        }

        void putSync(int at) {
            for (int i = 0; i < WRITTEN_SYNC_BYTES; i++) {
                putBits(at + 8 * i, 8, 255);
            }
        }

        /** The byte coded from a bit (0 or above) of the ring on, or NO_CODE. */
        int codedAt(int at) {
            int place = at % bits;
            int i = place / 8;
            int j = (i + 1) % row.length;
            int k = (i + 2) % row.length;
            int three = row[i] << 16 | row[j] << 8 | row[k];
            int ten = three >> (24 - CODED_BITS - place % 8) & 1023;
            int high = HALVES[ten >> 5];
            int low = HALVES[ten & 31];
            return high == NO_CODE || low == NO_CODE ? NO_CODE : high << 4 | low;
        }

        /** Finds where the syncs end, in their order, and answers how many there are. */
        int findSyncs() {
            if (known) {
                return found;
            }
            found = 0;
            // A row of ones goes round the ring; sixteen bits tell whether it makes a sync.
            int last = row[row.length - 2] << 8 | row[row.length - 1];
            int run = 0;
            while (run < 16 && (last >> run & 1) == 1) {
                run++;
            }
            for (int i = 0; i < row.length; i++) {
                int v = row[i];
                if (v == 255) {
                    run += 8;
                    continue;
                }
                int lead = 0;
                while (lead < 8 && (v << lead & 128) != 0) {
                    lead++;
                }
                if (run + lead >= SYNC_BITS && found < starts.length) {
                    starts[found] = 8 * i + lead;
                    found++;
                }
                run = 0;
                while (run < 8 && (v >> run & 1) == 1) {
                    run++;
                }
            }
            known = true;
            return found;
        }

        /** Moves all bits on by n places; old is a row at least as long as the ring's. */
        void rotate(int n, int[] old) {
            int size = row.length;
            if (old.length < size) {
                return;
            }
            int places = Math.floorMod(n, bits);
            int from = size - places / 8;
            int shift = places % 8;
            System.arraycopy(row, 0, old, 0, size);
            for (int i = 0; i < size; i++) {
                int high = old[(from + i - 1) % size];
                int low = old[(from + i) % size];
                row[i] = (high << 8 | low) >> shift & 255;
            }
            known = false;
        }

        void fillGap() {
            for (int i = 0; i < row.length; i++) {
                row[i] = GAP;
            }
            known = false;
        }

        /** Lays the bytes of another ring into this one, from one of its bytes on. */
        void layRing(Ring other, int at) {
            if (at >= 0 && at + other.row.length <= row.length) {
                System.arraycopy(other.row, 0, row, at, other.row.length);
                known = false;
            }
        }

        void putHeader(int at, int track, int sector, int id) {
            int high = id >> 8 & 255;
            int low = id & 255;
            putCoded(at, HEADER_MARK);
            putCoded(at + CODED_BITS, sector ^ track ^ high ^ low);
            putCoded(at + 2 * CODED_BITS, sector);
            putCoded(at + 3 * CODED_BITS, track);
            putCoded(at + 4 * CODED_BITS, high);
            putCoded(at + 5 * CODED_BITS, low);
        }

        /** Writes a block's sync, DATA and gap, as they stand behind a header. */
        void putData(int header, int[] bytes) {
            int at = header + HEADER_TO_SYNC;
            putSync(at);
            at += 8 * WRITTEN_SYNC_BYTES;
            putCoded(at, DATA_MARK);
            int sum = 0;
            for (int i = 0; i < BLOCK_BYTES && i < bytes.length; i++) {
                at += CODED_BITS;
                putCoded(at, bytes[i]);
                sum ^= bytes[i];
            }
            putCoded(at + CODED_BITS, sum);
            putBits(at + 2 * CODED_BITS, 8, GAP);
        }

        /** Takes the DATA that is coded from a bit on; 0 or its error. */
        int takeData(int start, int[] into) {
            if (codedAt(start) != DATA_MARK) {
                return NO_DATA;
            }
            int at = start;
            int sum = 0;
            for (int i = 0; i < BLOCK_BYTES && i < into.length; i++) {
                at += CODED_BITS;
                int v = codedAt(at);
                if (v == NO_CODE) {
                    return DATA_CODE;
                }
                into[i] = v;
                sum ^= v;
            }
            int check = codedAt(at + CODED_BITS);
            if (check == NO_CODE) {
                return DATA_CODE;
            }
            return check == sum ? 0 : DATA_SUM;
        }
    }

    /** The tracks, and the blocks that are found on them. */
    private static final class Blocks {
        final Status report;
        final Ring[] rings;

        /** A formatted sector, whose header alone changes from block to block. */
        final Ring sample;
        int id;
        int reads;
        int writes;
        int faults;

        Blocks(Status report) {
            this.report = report;
            id = NONE;
            rings = new Ring[TRACKS];
            for (int i = 0; i < TRACKS; i++) {
                rings[i] = new Ring(Ring.sizeOf(i + 1));
            }
            sample = new Ring(SECTOR_BYTES);
            sample.fillGap();
            sample.putSync(0);
            sample.putData(8 * WRITTEN_SYNC_BYTES, new int[BLOCK_BYTES]);
        }

        Ring ringOf(int track) {
            return track >= 1 && track <= TRACKS ? rings[track - 1] : null;
        }

        static int sectorsOf(int track) {
            if (track < 1 || track > TRACKS) {
                return 0;
            }
            return track <= 8 ? 9 : track <= 12 ? 8 : 7;
        }

        static boolean isBlock(int track, int sector) {
            return sector >= 0 && sector < sectorsOf(track);
        }

        void formatTracks() {
            for (int track = 1; track <= TRACKS; track++) {
                Ring ring = ringOf(track);
                if (ring != null) {
                    formatTrack(ring, track);
                }
            }
        }

        private void formatTrack(Ring ring, int track) {
            ring.fillGap();
            int sectors = sectorsOf(track);
            for (int sector = 0; sector < sectors; sector++) {
                sample.putHeader(8 * WRITTEN_SYNC_BYTES, track, sector, id);
                ring.layRing(sample, SECTOR_BYTES * sector);
            }
        }

        /** Writes a block where formatting has just laid it, which is no counted WRITE. */
        void layFormatted(int track, int sector, int[] bytes) {
            Ring ring = ringOf(track);
            if (ring != null) {
                ring.putData(8 * (SECTOR_BYTES * sector + WRITTEN_SYNC_BYTES), bytes);
            }
        }

        /** Reads a block for a call on the disk: its error is the STATUS. */
        int fetch(int track, int sector, int[] into) {
            int error = readBlock(track, sector, into);
            return error == 0 ? 0 : report.tell(error, track, sector);
        }

        /** Writes a block for a call on the disk: its error is the STATUS. */
        int store(int track, int sector, int[] bytes) {
            int error = writeBlock(track, sector, bytes);
            return error == 0 ? 0 : report.tell(error, track, sector);
        }

        int readBlock(int track, int sector, int[] into) {
            Ring ring = ringOf(track);
            if (id == NONE) {
                return NO_ID;
            }
            if (ring == null || !isBlock(track, sector)) {
                return BAD_CHAIN;
            }
            int sync = seek(ring, track, sector);
            int next = sync + 1 < ring.found ? sync + 1 : 0;
            int error = sync < 0 ? -sync : ring.takeData(ring.startOf(next), into);
            if (error == 0) {
                reads++;
            } else {
                faults++;
            }
            return error;
        }

        int writeBlock(int track, int sector, int[] bytes) {
            Ring ring = ringOf(track);
            if (id == NONE) {
                return NO_ID;
            }
            if (ring == null || !isBlock(track, sector)) {
                return BAD_CHAIN;
            }
            int sync = seek(ring, track, sector);
            if (sync < 0) {
                faults++;
                return -sync;
            }
            ring.putData(ring.startOf(sync), bytes);
            writes++;
            return 0;
        }

        /** The sync ahead of a block's header, or its error below 0. */
        private int seek(Ring ring, int track, int sector) {
            int syncs = ring.findSyncs();
            if (syncs == 0) {
                return -NO_SYNC;
            }
            for (int i = 0; i < syncs; i++) {
                int error = headerError(ring, ring.startOf(i), track, sector);
                if (error != NO_HEADER) {
                    return error == 0 ? i : -error;
                }
            }
            return -NO_HEADER;
        }

        /** 0 for the block's right header, NO_HEADER if it is none of this block. */
        private int headerError(Ring ring, int at, int track, int sector) {
            if (ring.codedAt(at) != HEADER_MARK
                    || ring.codedAt(at + 2 * CODED_BITS) != sector
                    || ring.codedAt(at + 3 * CODED_BITS) != track) {
                return NO_HEADER;
            }
            int sum = ring.codedAt(at + CODED_BITS);
            int high = ring.codedAt(at + 4 * CODED_BITS);
            int low = ring.codedAt(at + 5 * CODED_BITS);
            if (sum == NO_CODE || high == NO_CODE || low == NO_CODE) {
                return NO_HEADER;
            }
            if (sum != (sector ^ track ^ high ^ low)) {
                return HEADER_SUM;
            }
            return (high << 8 | low) == id ? 0 : OTHER_ID;
        }
    }

    /** The map at hand. */
    private static final class FreeMap {
        final int[] row = new int[BLOCK_BYTES];

        void fillNew(int id, int a, int b) {
            clearRow(row, 0, BLOCK_BYTES);
            row[0] = SYSTEM_TRACK;
            row[1] = DIRECTORY_SECTOR;
            for (int track = 1; track <= TRACKS; track++) {
                int sectors = Blocks.sectorsOf(track);
                for (int sector = 0; sector < sectors; sector++) {
                    setFree(track, sector, true);
                }
            }
            setFree(SYSTEM_TRACK, MAP_SECTOR, false);
            setFree(SYSTEM_TRACK, DIRECTORY_SECTOR, false);
            fillName(row, MAP_NAME, a, b);
            row[MAP_ID] = id >> 8 & 255;
            row[MAP_ID + 1] = id & 255;
        }

        boolean isFree(int track, int sector) {
            return Blocks.isBlock(track, sector)
                    && (row[2 * track + sector / 8] >> sector % 8 & 1) == 1;
        }

        void setFree(int track, int sector, boolean free) {
            if (Blocks.isBlock(track, sector)) {
                int at = 2 * track + sector / 8;
                int bit = 1 << sector % 8;
                row[at] = free ? row[at] | bit : row[at] & ~bit;
            }
        }

        int leastFree(int track) {
            int sectors = Blocks.sectorsOf(track);
            for (int sector = 0; sector < sectors; sector++) {
                if (isFree(track, sector)) {
                    return sector;
                }
            }
            return NONE;
        }

        /** How many blocks are FREE for files. */
        int freeBlocks() {
            int free = 0;
            for (int track : FILE_TRACKS) {
                int sectors = Blocks.sectorsOf(track);
                for (int sector = 0; sector < sectors; sector++) {
                    free += isFree(track, sector) ? 1 : 0;
                }
            }
            return free;
        }
    }

    /** The directory, as far as it has been read. */
    private static final class Directory {
        final Blocks blocks;
        final Status report;

        /** The block read latest, where it is, and its place in the chain from 1 on. */
        final int[] row = new int[BLOCK_BYTES];
        int track;
        int sector;
        int walked;

        /** Where in row the entry looked for begins, or NONE. */
        int entry;

        /** The empty entry that counts, or NONE, and the block with it: read, or a further one. */
        int room;
        final int[] roomRow = new int[BLOCK_BYTES];
        int roomTrack;
        int roomSector;
        boolean grows;

        Directory(Blocks blocks, Status report) {
            this.blocks = blocks;
            this.report = report;
            entry = NONE;
            room = NONE;
        }

        int begin() {
            entry = NONE;
            room = NONE;
            grows = false;
            walked = 1;
            track = SYSTEM_TRACK;
            sector = DIRECTORY_SECTOR;
            return blocks.fetch(track, sector, row);
        }

        boolean isLast() {
            return row[0] == 0 && row[1] == 0;
        }

        int step() {
            if (walked >= DIRECTORY_BLOCKS || !Blocks.isBlock(row[0], row[1])) {
                return report.tell(BAD_CHAIN, track, sector);
            }
            walked++;
            track = row[0];
            sector = row[1];
            return blocks.fetch(track, sector, row);
        }

        /** Looks through the block read latest, and keeps the first empty entry on the way. */
        boolean findEntry(int a, int b) {
            for (int at = FIRST_ENTRY; at < ENTRIES_END; at += ENTRY_BYTES) {
                if (row[at] == 0) {
                    keepRoom(at);
                } else if (hasName(row, at + 4, a, b)) {
                    entry = at;
                    return true;
                }
            }
            return false;
        }

        private void keepRoom(int at) {
            if (room == NONE) {
                room = at;
                roomTrack = track;
                roomSector = sector;
                System.arraycopy(row, 0, roomRow, 0, BLOCK_BYTES);
            }
        }

        void addEntries(Bytes to) {
            for (int at = FIRST_ENTRY; at < ENTRIES_END; at += ENTRY_BYTES) {
                if (row[at] != 0) {
                    to.add(row[at]);
                    to.add(row[at + 3]);
                    to.addRow(row, at + 4, NAME_BYTES);
                }
            }
        }

        /** Makes sure of an empty entry, if need be in a further block; false if there is no room. */
        boolean takeEntry(FreeMap map) {
            if (room != NONE) {
                return true;
            }
            int free = map.leastFree(SYSTEM_TRACK);
            if (free == NONE || walked >= DIRECTORY_BLOCKS) {
                return false;
            }
            map.setFree(SYSTEM_TRACK, free, false);
            grows = true;
            room = FIRST_ENTRY;
            roomTrack = SYSTEM_TRACK;
            roomSector = free;
            clearRow(roomRow, 0, BLOCK_BYTES);
            return true;
        }

        /** Writes the last block of before with its link to the further one. */
        int storeLink() {
            row[0] = roomTrack;
            row[1] = roomSector;
            return blocks.store(track, sector, row);
        }

        int storeWithoutEntry() {
            if (entry != NONE) {
                clearRow(row, entry, ENTRY_BYTES);
            }
            return blocks.store(track, sector, row);
        }
    }

    /** The blocks of one file, in their order. */
    private static final class Chain {
        final Blocks blocks;
        final Status report;
        final int[] tracks = new int[FILE_BLOCKS];
        final int[] sectors = new int[FILE_BLOCKS];
        int length;
        final int[] row = new int[BLOCK_BYTES];

        Chain(Blocks blocks, Status report) {
            this.blocks = blocks;
            this.report = report;
        }

        private void addBlock(int track, int sector) {
            if (length < FILE_BLOCKS) {
                tracks[length] = track;
                sectors[length] = sector;
                length++;
            }
        }

        /** Takes that many FREE blocks from the map; false if there are not so many. */
        boolean take(FreeMap map, int needed) {
            length = 0;
            for (int track : FILE_TRACKS) {
                int most = Blocks.sectorsOf(track);
                for (int sector = 0; sector < most && length < needed; sector++) {
                    if (map.isFree(track, sector)) {
                        map.setFree(track, sector, false);
                        addBlock(track, sector);
                    }
                }
            }
            return length == needed;
        }

        void release(FreeMap map) {
            for (int i = 0; i < length; i++) {
                if (tracks[i] != SYSTEM_TRACK) {
                    map.setFree(tracks[i], sectors[i], true);
                }
            }
        }

        /** Writes the blocks that were taken, with the bytes of a file. */
        int store(Bytes file) {
            int error = 0;
            for (int i = 0; i < length && error == 0; i++) {
                fillBlock(file, i);
                error = blocks.store(tracks[i], sectors[i], row);
            }
            return error;
        }

        private void fillBlock(Bytes file, int i) {
            int from = FILE_BYTES * i;
            boolean last = i + 1 >= length;
            row[0] = last ? 0 : tracks[i + 1];
            row[1] = last ? file.length - from : sectors[i + 1];
            for (int k = 0; k < FILE_BYTES; k++) {
                row[k + 2] = Math.max(0, file.byteAt(from + k));
            }
        }

        /** Reads the file that was looked for, if it was found; its bytes are added to a row. */
        int follow(Directory directory, Bytes into) {
            length = 0;
            if (directory.entry == NONE) {
                return report.tell(NO_FILE, 0, 0);
            }
            int track = directory.row[directory.entry + 1];
            int sector = directory.row[directory.entry + 2];
            if (!Blocks.isBlock(track, sector)) {
                return report.tell(BAD_CHAIN, directory.track, directory.sector);
            }
            for (int i = 0; i < FILE_BLOCKS; i++) {
                int error = blocks.fetch(track, sector, row);
                if (error != 0) {
                    return error;
                }
                addBlock(track, sector);
                boolean last = row[0] == 0;
                if (last ? row[1] > FILE_BYTES : !Blocks.isBlock(row[0], row[1])) {
                    break;
                }
                into.addRow(row, 2, last ? row[1] : FILE_BYTES);
                if (last) {
                    return 0;
                }
                if (i + 1 < FILE_BLOCKS) {
                    track = row[0];
                    sector = row[1];
                }
            }
            return report.tell(BAD_CHAIN, track, sector);
        }
    }
}
