/** Each promise by itself: ordinary inputs, and some that are wrong. */
public final class PromiseTest {
    private static final int LOW = Integer.MIN_VALUE;
    private static final int HIGH = Integer.MAX_VALUE;

    public static void main(String[] args) {
        promise1New();
        promise2Feed();
        promise3End();
        promise4Format();
        promise5Mount();
        promise6Save();
        promise7Load();
        promise8Scratch();
        promise9List();
        promise10Info();
        promise11Out();
        promise12Status();
        promise13Peek();
        promise14Poke();
        promise15Stamp();
        promise16Turn();
        promise17Syncs();
        promise18Read();
        promise19Write();
        promise20Count();
        Check.finish();
    }

    private static Drive formatted() {
        Drive x = new Drive();
        Check.due("format", x.format(0x1234, 0x01020304, 0x05060708), 0);
        return x;
    }

    private static void promise1New() {
        Drive x = new Drive();
        for (int t = 1; t <= 16; t++) {
            Check.due("peek", x.peek(t, 0), 0);
            Check.due("peek", x.peek(t, Bits.size(t) - 1), 0);
            Check.due("peek", x.peek(t, Bits.size(t)), -1);
            Check.due("syncs", x.syncs(t), 0);
        }
        Check.status(x, 0, 0, 0);
        Check.out(x);
        for (int what = 0; what < 4; what++) {
            Check.due("count", x.count(what), 0);
        }
        Check.due("read", x.read(1, 0), 74);
        Check.due("write", x.write(1, 0), 74);
        Check.status(x, 0, 0, 0);
        Check.due("info", x.info(), -1);
        Check.status(x, 74, 0, 0);
        Check.due("list", new Drive().list(), -1);
        Check.due("load", new Drive().load(1, 1), -1);
        Check.due("save", new Drive().save(1, 1, 1), 74);
        Check.due("scratch", new Drive().scratch(1, 1), 74);
    }

    private static void promise2Feed() {
        Drive x = formatted();
        Check.due("feed", x.feed(0x01020304, 0x85868788, -1, LOW, 0x11121314), 20);
        Check.due("count", x.count(3), 20);
        Check.due("write", x.write(1, 0), 0);
        Check.due("read", x.read(1, 0), 0);
        int[] due = {1, 2, 3, 4, 0x85, 0x86, 0x87, 0x88, 255, 255, 255, 255, 128, 0, 0, 0, 17, 18, 19, 20, 0};
        for (int i = 0; i < due.length; i++) {
            Check.due("out", x.out(i), due[i]);
        }
        for (int n = 20; n <= 2480; n += 20) {
            Check.due("feed", x.feed(1, 2, 3, 4, 5), n);
        }
        Check.due("feed beyond", x.feed(1, 2, 3, 4, 5), -1);
        Check.due("count", x.count(3), 2480);
        Check.due("end", x.end(2461), 2461);
        Check.due("feed beyond", x.feed(1, 2, 3, 4, 5), -1);
        Check.due("count", x.count(3), 2461);
        Check.due("end", x.end(2460), 2460);
        Check.due("feed", x.feed(1, 2, 3, 4, 5), 2480);
    }

    private static void promise3End() {
        Drive x = new Drive();
        Check.due("end", x.end(0), 0);
        Check.due("end", x.end(1), -1);
        Check.due("feed", x.feed(1, 2, 3, 4, 5), 20);
        Check.due("end", x.end(21), -1);
        Check.due("end", x.end(-1), -1);
        Check.due("end", x.end(LOW), -1);
        Check.due("end", x.end(HIGH), -1);
        Check.due("count", x.count(3), 20);
        Check.due("end", x.end(20), 20);
        Check.due("end", x.end(7), 7);
        Check.due("end", x.end(8), -1);
        Check.due("feed", x.feed(-1, -1, -1, -1, -1), 27);
        x.mount(1);
        Check.due("format", x.format(1, 1, 1), 0);
        Check.due("count", x.count(3), 27);
        Check.due("write", x.write(1, 1), 0);
        Check.due("read", x.read(1, 1), 0);
        Check.due("out", x.out(3), 1);
        Check.due("out", x.out(6), 0);
        Check.due("out", x.out(7), 255);
    }

    private static void promise4Format() {
        Drive x = new Drive();
        x.info();
        Check.due("format", x.format(0xABCD1234, 0x81020304, 0x0506FF08), 0);
        Check.status(x, 0, 0, 0);
        for (int t = 1; t <= 16; t++) {
            for (int s = 0; s < Bits.sectors(t); s++) {
                Check.due("read", x.read(t, s), 0);
                Check.due("out", x.out(63), 0);
            }
            Check.due("read beyond", x.read(t, Bits.sectors(t)), 66);
        }
        Check.blockIs(x, 9, 0, Check.newMap(0x1234, 0x81020304, 0x0506FF08));
        Check.blockIs(x, 9, 1);
        Check.due("count", x.count(1), 0);
        x.poke(3, 3, 0);
        x.turn(4, 99);
        Check.due("format", x.format(7, 0, 0), 0);
        Check.due("poke is gone", x.peek(3, 3), 255);
        Check.due("turn is gone", x.peek(4, 0), 255);
        Check.due("list", x.list(), 0);
        Check.due("info", x.info(), 11);
        Check.out(x, 0, 0, 0, 0, 0, 0, 0, 0, 0, 7, 124);
        Bits.due("format", PromiseTest::formatted, 16, Bits.track(16, 0x1234));
    }

    private static void promise5Mount() {
        Drive x = new Drive();
        x.list();
        Check.status(x, 74, 0, 0);
        Check.due("mount", x.mount(5), 0);
        Check.status(x, 0, 0, 0);
        Check.due("list", x.list(), -1);
        Check.status(x, 21, 9, 0);
        x.format(0xFFFE, 1, 2);
        Check.due("mount", x.mount(0xFFFF), 0);
        Check.due("info", x.info(), -1);
        Check.status(x, 29, 9, 0);
        Check.due("mount", x.mount(-2), 0);
        Check.status(x, 0, 0, 0);
        Check.due("info", x.info(), 11);
        Check.due("mount", x.mount(0x7FFFFFFE), 0);
        Check.due("info", x.info(), 11);
    }

    private static void promise6Save() {
        for (int many : new int[] {0, 1, 61, 62, 63, 123, 124, 125, 2479, 2480}) {
            Drive x = formatted();
            Check.tape(x, many, 5);
            Check.due("save", x.save(9, 0, 0x80), 0);
            Check.status(x, 0, 0, 0);
            Check.due("count", x.count(3), 0);
            int blocks = Math.max(1, (many + 61) / 62);
            Check.due("count", x.count(1), blocks + 2);
            Check.due("list", x.list(), 10);
            Check.out(x, 9, blocks, 0, 0, 0, 0, 0, 0, 0, 128);
            x.info();
            Check.due("out", x.out(10), 124 - blocks);
            Check.due("load", x.load(0, 0x80), many);
            for (int i = 0; i < many; i += many / 200 + 1) {
                Check.due("out", x.out(i), Check.fileByte(i, 5));
            }
        }
        Drive x = formatted();
        x.load(4, 4);
        for (int type : new int[] {0, 10, -1, LOW, HIGH, 257}) {
            Check.tape(x, 3, 1);
            Check.due("save of type " + type, x.save(type, 1, 1), -1);
            Check.due("count", x.count(3), 0);
            Check.status(x, 62, 0, 0);
        }
        Check.due("save without a name", x.save(1, 0, 0), -1);
        Check.status(x, 62, 0, 0);
        Check.due("count", x.count(0), 2);
        Check.due("save", x.save(1, 1, 0), 0);
        Check.tape(x, 3, 1);
        Check.due("save again", x.save(2, 1, 0), 63);
        Check.status(x, 63, 9, 1);
        Check.due("count", x.count(3), 0);
        Drive y = new Drive();
        Check.tape(y, 3, 1);
        Check.due("save", y.save(1, 1, 1), 74);
        Check.due("count", y.count(3), 0);
        Check.due("save", y.save(0, 1, 1), -1);
    }

    private static void promise7Load() {
        Drive x = formatted();
        Check.tape(x, 70, 9);
        x.save(1, -1, -2);
        Check.due("load", x.load(-1, -2), 70);
        Check.status(x, 0, 0, 0);
        Check.due("out", x.out(69), Check.fileByte(69, 9));
        Check.due("load", x.load(-2, -1), -1);
        Check.status(x, 62, 0, 0);
        Check.out(x);
        Check.due("load", x.load(0, 0), -1);
        Check.status(x, 62, 0, 0);
        for (int bit = 0; bit < 32; bit += 8) {
            Check.due("another name", x.load(-1 ^ 1 << bit, -2), -1);
            Check.due("another name", x.load(-1, -2 ^ 1 << bit), -1);
        }
        Check.due("load", x.load(-1, -2), 70);
        Check.status(x, 0, 0, 0);
    }

    private static void promise8Scratch() {
        Drive x = formatted();
        Check.tape(x, 70, 9);
        x.save(1, 1, 1);
        x.info();
        Check.due("scratch", x.scratch(1, 1), 1);
        Check.status(x, 1, 2, 0);
        Check.due("OUT stays", x.out(10), 122);
        Check.due("scratch", x.scratch(1, 1), 62);
        Check.status(x, 62, 0, 0);
        Check.due("OUT stays", x.out(10), 122);
        Check.due("list", x.list(), 0);
        Check.due("info", x.info(), 11);
        Check.due("out", x.out(10), 124);
        Check.due("read", x.read(9, 1), 0);
        Check.out(x, new int[64]);
        x.mount(0);
        Check.due("scratch", x.scratch(1, 1), 29);
    }

    private static void promise9List() {
        Drive x = formatted();
        Check.due("list", x.list(), 0);
        Check.out(x);
        for (int i = 1; i <= 35; i++) {
            Check.due("save", x.save(1 + i % 9, i, -i), 0);
        }
        Check.due("list", x.list(), 350);
        for (int i = 1; i <= 35; i++) {
            int at = 10 * i - 10;
            Check.due("type", x.out(at), 1 + i % 9);
            Check.due("blocks", x.out(at + 1), 1);
            Check.due("name", x.out(at + 5), i);
            Check.due("name", x.out(at + 9), 256 - i);
        }
        Check.due("end of OUT", x.out(350), -1);
        Check.due("scratch", x.scratch(3, -3), 1);
        Check.due("list", x.list(), 340);
        Check.due("next name", x.out(25), 4);
        x.mount(9);
        Check.due("list", x.list(), -1);
        Check.out(x);
    }

    private static void promise10Info() {
        Drive x = formatted();
        x.list();
        Check.due("info", x.info(), 11);
        Check.out(x, 1, 2, 3, 4, 5, 6, 7, 8, 0x12, 0x34, 124);
        Check.status(x, 0, 0, 0);
        Check.due("count", x.count(0), 3);
        Check.change(x, 9, 0, 2, 0, 3, 254, 18, 0, 48, 99);
        Check.due("info", x.info(), 11);
        Check.out(x, 1, 2, 3, 4, 5, 6, 7, 8, 99, 0x34, 115);
        x.mount(1);
        Check.due("info", x.info(), -1);
        Check.out(x);
    }

    private static void promise11Out() {
        Drive x = formatted();
        Check.due("out", x.out(0), -1);
        x.info();
        for (int i : new int[] {-1, 11, LOW, HIGH}) {
            Check.due("out(" + i + ")", x.out(i), -1);
        }
        Check.due("out", x.out(10), 124);
        x.save(1, 1, 1);
        x.write(1, 1);
        x.scratch(2, 2);
        x.mount(0x1234);
        Check.due("OUT stays", x.out(10), 124);
        Check.due("read", x.read(1, 9), 66);
        Check.due("out", x.out(0), -1);
        x.info();
        x.format(1, 1, 1);
        Check.due("OUT stays", x.out(10), 123);
    }

    private static void promise12Status() {
        Drive x = formatted();
        x.poke(9, 6, 0);
        x.info();
        Check.status(x, 20, 9, 0);
        for (int what : new int[] {-1, 3, LOW, HIGH}) {
            Check.due("status(" + what + ")", x.status(what), -1);
        }
        x.format(0x1234, 1, 1);
        Check.status(x, 0, 0, 0);
        for (int call = 0; call < 4; call++) {
            x.load(9, 9);
            Check.status(x, 62, 0, 0);
            int answer = call == 0 ? x.info() : call == 1 ? x.list() : call == 2 ? x.save(1, 1, 1) : x.load(1, 1);
            Check.due("answer", answer, call == 0 ? 11 : 0);
            Check.status(x, 0, 0, 0);
        }
        Check.due("scratch", x.scratch(1, 1), 1);
        Check.status(x, 1, 1, 0);
        x.poke(9, 6, 0);
        x.info();
        x.read(1, 1);
        x.read(0, 0);
        x.write(0, 0);
        x.syncs(1);
        Check.status(x, 20, 9, 0);
    }

    private static void promise13Peek() {
        Drive x = formatted();
        Check.due("peek", x.peek(1, 4), 255);
        Check.due("peek", x.peek(1, 5), 82);
        Check.due("peek", x.peek(16, 829), 85);
        int[][] none = {{0, 0}, {17, 0}, {-1, 0}, {LOW, 0}, {HIGH, 0}, {1, -1}, {1, LOW}, {1, HIGH}, {1, 1060},
            {8, 1060}, {9, 940}, {12, 940}, {13, 830}, {16, 830}};
        for (int[] at : none) {
            Check.due("peek(" + at[0] + ", " + at[1] + ")", x.peek(at[0], at[1]), -1);
            Check.due("poke(" + at[0] + ", " + at[1] + ")", x.poke(at[0], at[1], 1), -1);
            Check.due("stamp(" + at[0] + ", " + at[1] + ")", x.stamp(at[0], at[1], 1), -1);
        }
        int[][] last = {{1, 1059}, {8, 1059}, {9, 939}, {12, 939}, {13, 829}};
        for (int[] at : last) {
            Check.due("peek(" + at[0] + ", " + at[1] + ")", x.peek(at[0], at[1]), 85);
        }
    }

    private static void promise14Poke() {
        Drive x = new Drive();
        Check.due("poke", x.poke(2, 7, 0x1AB), 0);
        Check.due("peek", x.peek(2, 7), 0xAB);
        Check.due("poke", x.poke(2, 7, -1), 0xAB);
        Check.due("poke", x.poke(2, 7, 0), 255);
        Check.due("poke", x.poke(2, 7, LOW), 0);
        Check.due("peek", x.peek(2, 7), 0);
        Check.due("poke", x.poke(2, 1059, 129), 0);
        Check.due("peek", x.peek(2, 0), 0);
        Check.due("peek", x.peek(2, 1058), 0);
        Check.due("peek", x.peek(2, 1059), 129);
        Check.due("peek", x.peek(3, 1059), 0);
    }

    private static void promise15Stamp() {
        Drive x = new Drive();
        Check.due("stamp", x.stamp(13, 3, 0x81020304), 1);
        int[] due = {0, 0, 0, 0x81, 2, 3, 4, 0};
        for (int i = 0; i < due.length; i++) {
            Check.due("peek", x.peek(13, i), due[i]);
        }
        for (int back = 1; back <= 4; back++) {
            Drive y = new Drive();
            Check.due("stamp", y.stamp(9, 940 - back, 0x01020304), 1);
            for (int k = 0; k < 4; k++) {
                Check.due("peek", y.peek(9, (940 - back + k) % 940), k + 1);
            }
            Check.due("peek", y.peek(9, 940 - back - 1), 0);
            Check.due("peek", y.peek(9, 4 - back), 0);
        }
    }

    private static void promise16Turn() {
        for (int t : new int[] {1, 9, 13}) {
            int size = Bits.size(t);
            int bits = 8 * size;
            for (int n : new int[] {0, 1, 7, 8, 9, -1, -8, -9, bits - 1, bits, bits + 3, -bits, HIGH, LOW, 1234567}) {
                Drive x = new Drive();
                x.poke(t, 0, 128);
                Check.due("turn", x.turn(t, n), 1);
                int place = Math.floorMod(n, bits);
                for (int i = place / 8 + size - 2; i <= place / 8 + size + 2; i++) {
                    Check.due("peek after turn " + n, x.peek(t, i % size), i == place / 8 + size ? 128 >> place % 8 : 0);
                }
            }
        }
        Drive x = formatted();
        for (int i = 0; i < 20; i++) {
            x.turn(5, 1237);
            x.turn(9, -1237);
            Check.due("read", x.read(5, i % 9), 0);
            Check.due("syncs", x.syncs(5), 18);
        }
        Check.due("save", x.save(1, 1, 1), 0);
        x.turn(5, -20 * 1237);
        x.turn(9, 20 * 1237);
        Check.due("peek", x.peek(5, 5), 82);
        Check.due("load", x.load(1, 1), 0);
        for (int t : new int[] {0, 17, -1, LOW, HIGH}) {
            Check.due("turn", x.turn(t, 1), -1);
            Check.due("syncs", x.syncs(t), -1);
        }
    }

    private static void promise17Syncs() {
        Drive x = new Drive();
        x.stamp(1, 10, 0x7FC00000);
        Check.due("nine ones", x.syncs(1), 0);
        x.stamp(1, 10, 0x7FE00000);
        Check.due("ten ones", x.syncs(1), 1);
        x.stamp(1, 20, 0x1FF80000);
        Check.due("ten ones", x.syncs(1), 2);
        x.poke(1, 1059, 0x1F);
        x.poke(1, 0, 0xF0);
        Check.due("nine round the ring", x.syncs(1), 2);
        x.poke(1, 0, 0xF8);
        Check.due("ten round the ring", x.syncs(1), 3);
        for (int n = 0; n < 40; n++) {
            x.turn(1, 1);
            Check.due("syncs", x.syncs(1), 3);
        }
        Drive y = new Drive();
        Bits.lay(y, 2, Bits.ones(8480));
        Check.due("ones alone", y.syncs(2), 0);
        y.poke(2, 500, 254);
        Check.due("one bit 0", y.syncs(2), 1);
        y.poke(2, 500, 255);
        y.poke(2, 1059, 254);
        Check.due("one bit 0", y.syncs(2), 1);
        y.poke(2, 1059, 255);
        y.poke(2, 0, 127);
        Check.due("one bit 0", y.syncs(2), 1);
        onesAtEachPlace();
    }

    private static void onesAtEachPlace() {
        Drive x = null;
        for (int n = 0; n < 8 * 830; n++) {
            if (n % 80 == 0) {
                x = new Drive();
                x.stamp(13, 0, 0xFF800000);
                x.stamp(14, 0, 0xFFC00000);
                x.stamp(15, 0, 0xFF7F8000);
                x.turn(13, n);
                x.turn(14, n);
                x.turn(15, n);
            }
            Check.due("nine ones", x.syncs(13), 0);
            Check.due("ten ones", x.syncs(14), 1);
            Check.due("eight and eight ones", x.syncs(15), 0);
            x.turn(13, 1);
            x.turn(14, 1);
            x.turn(15, 1);
        }
    }

    private static void promise18Read() {
        Drive x = new Drive();
        Check.due("read", x.read(0, 0), 74);
        x.mount(3);
        Check.due("read", x.read(0, 0), 66);
        Check.due("read", x.read(4, 0), 21);
        x.format(3, 3, 3);
        Check.tape(x, 64, 77);
        Check.due("write", x.write(12, 7), 0);
        Check.due("read", x.read(12, 7), 0);
        for (int i = 0; i < 64; i++) {
            Check.due("out", x.out(i), Check.fileByte(i, 77));
        }
        Check.due("end of OUT", x.out(64), -1);
        int[][] none = {{0, 0}, {17, 0}, {1, -1}, {1, 9}, {8, 9}, {9, 8}, {12, 8}, {13, 7}, {16, 7}, {LOW, LOW},
            {HIGH, HIGH}, {5, LOW}, {5, HIGH}};
        for (int[] at : none) {
            Check.due("read(" + at[0] + ", " + at[1] + ")", x.read(at[0], at[1]), 66);
            Check.out(x);
            Check.due("write(" + at[0] + ", " + at[1] + ")", x.write(at[0], at[1]), 66);
        }
        Check.status(x, 0, 0, 0);
        Check.due("count", x.count(2), 1);
    }

    private static void promise19Write() {
        Drive x = formatted();
        Check.tape(x, 100, 3);
        Check.due("write", x.write(4, 4), 0);
        Check.due("count", x.count(3), 0);
        Check.due("read", x.read(4, 4), 0);
        Check.due("out", x.out(63), Check.fileByte(63, 3));
        Check.tape(x, 5, 3);
        Check.due("write", x.write(4, 4), 0);
        Check.due("read", x.read(4, 4), 0);
        Check.due("out", x.out(4), Check.fileByte(4, 3));
        Check.due("out", x.out(5), 0);
        Check.due("out", x.out(63), 0);
        Check.tape(x, 5, 3);
        Check.due("write", x.write(4, 9), 66);
        Check.due("count", x.count(3), 0);
        x.mount(0);
        Check.tape(x, 5, 3);
        Check.due("write", x.write(4, 4), 29);
        Check.due("count", x.count(3), 0);
        Check.status(x, 0, 0, 0);
        Drive y = new Drive();
        Check.tape(y, 5, 3);
        Check.due("write", y.write(0, 4), 74);
        Check.due("count", y.count(3), 0);
        y.mount(1);
        Check.due("write", y.write(4, 4), 21);
    }

    private static void promise20Count() {
        Drive x = formatted();
        x.feed(1, 2, 3, 4, 5);
        x.save(1, 1, 1);
        Check.due("count(0)", x.count(0), 2);
        Check.due("count(1)", x.count(1), 3);
        x.scratch(1, 1);
        Check.due("count(0)", x.count(0), 5);
        Check.due("count(1)", x.count(1), 5);
        x.read(1, 1);
        x.write(1, 1);
        x.read(1, 9);
        Check.due("count(0)", x.count(0), 6);
        Check.due("count(1)", x.count(1), 6);
        Check.due("count(2)", x.count(2), 0);
        x.mount(2);
        x.read(1, 1);
        x.write(1, 1);
        x.list();
        x.save(1, 1, 1);
        Check.due("count(2)", x.count(2), 4);
        x.format(1, 1, 1);
        Check.due("count(0)", x.count(0), 6);
        Check.due("count(1)", x.count(1), 6);
        Check.due("count(2)", x.count(2), 4);
        x.feed(1, 2, 3, 4, 5);
        Check.due("count(3)", x.count(3), 20);
        for (int what : new int[] {-1, 4, LOW, HIGH}) {
            Check.due("count(" + what + ")", x.count(what), -1);
        }
    }
}
