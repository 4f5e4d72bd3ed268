import java.util.Random;

/** Runs of calls, the same ones each time, on BitDrive and on the model, within the calls that are promised. */
public final class ModelTest {
    private static final int RUNS = 1500;
    private static final int LAST_STEP = 430;
    private static int wrong = 0;

    private final int run;
    private final Random random;
    private final Drive drive = new Drive();
    private final Model model = new Model();
    private final int[] seen = new int[100];

    private ModelTest(int run) {
        this.run = run;
        this.random = new Random(0x9E3779B97F4A7C15L * run);
    }

    public static void main(String[] args) {
        int[] statuses = new int[100];
        for (int run = 1; run <= RUNS && wrong == 0; run++) {
            ModelTest test = new ModelTest(run);
            test.go();
            for (int i = 0; i < statuses.length; i++) {
                statuses[i] += test.seen[i];
            }
        }
        for (int number : new int[] {0, 1, 20, 21, 22, 23, 24, 27, 29, 62, 63, 66, 72, 74}) {
            if (statuses[number] == 0) {
                wrong++;
                System.out.println("no run came to STATUS " + number);
            }
        }
        System.out.println(wrong == 0 ? "all answers are the model's" : wrong + " answers are not the model's");
        if (wrong != 0) {
            System.exit(1);
        }
        Check.finish();
    }

    private void due(String call, int got, int want) {
        if (got != want) {
            wrong++;
            System.out.println("run " + run + ", call " + drive.calls() + ": " + call + " answered " + got
                    + ", due is " + want);
        }
    }

    private void go() {
        if (random.nextInt(8) != 0) {
            format();
        }
        boolean rough = random.nextBoolean();
        while (drive.calls() < LAST_STEP && wrong == 0) {
            int kind = random.nextInt(100);
            if (kind < 60) {
                gentleCall();
            } else if (kind < 80) {
                bitCall();
            } else if (rough) {
                harm();
            }
            if (kind == 99) {
                format();
            }
            compareSome();
        }
        while (drive.calls() < Drive.MOST_CALLS) {
            int t = random.nextInt(3) == 0 ? random.nextInt(18) : 7 + random.nextInt(3);
            int i = random.nextInt(1062) - 1;
            due("peek(" + t + ", " + i + ")", drive.peek(t, i), model.peek(t, i));
        }
    }

    /** One by one for want of calls; over all runs each is asked behind each kind of call. */
    private void compareSome() {
        int what = random.nextInt(5) - 1;
        due("status(" + what + ")", drive.status(what), model.status(what));
        what = random.nextInt(6) - 1;
        due("count(" + what + ")", drive.count(what), model.count(what));
        int i = random.nextInt(model.out.size() + 2) - 1;
        due("out(" + i + ")", drive.out(i), model.out(i));
        i = model.out.size() - random.nextInt(2);
        due("out(" + i + ")", drive.out(i), model.out(i));
        seen[model.status(0)]++;
    }

    private void format() {
        int id = random.nextInt();
        int name = random.nextInt();
        due("format", drive.format(id, name, ~name), model.format(id, name, ~name));
    }

    /** One name of few, so that files are met again. */
    private int someName() {
        return random.nextInt(40) - 1;
    }

    private int someTrack() {
        return random.nextInt(3) == 0 ? 9 : random.nextInt(6) == 0 ? random.nextInt(20) - 1 : 7 + random.nextInt(3);
    }

    private int someSector() {
        return random.nextInt(11) - 1;
    }

    private void fill(int most) {
        int feeds = random.nextInt(most + 1);
        for (int i = 0; i < feeds; i++) {
            int a = random.nextInt();
            int b = random.nextInt();
            due("feed", drive.feed(a, b, 0, -1, i), model.feed(a, b, 0, -1, i));
        }
        int n = model.tape.size() - random.nextInt(23) + 1;
        due("end(" + n + ")", drive.end(n), model.end(n));
    }

    private void gentleCall() {
        int a = someName();
        int b = random.nextInt(12) == 0 ? 1 : 0;
        switch (random.nextInt(8)) {
            case 0:
            case 1:
            case 2:
                fill(drive.calls() < 300 && random.nextInt(10) == 0 ? 130 : 8);
                int type = random.nextInt(20) == 0 ? random.nextInt(12) - 1 : 1 + random.nextInt(9);
                due("save(" + type + ", " + a + ", " + b + ")", drive.save(type, a, b), model.save(type, a, b));
                break;
            case 3:
            case 4:
                due("load(" + a + ", " + b + ")", drive.load(a, b), model.load(a, b));
                break;
            case 5:
                due("scratch(" + a + ", " + b + ")", drive.scratch(a, b), model.scratch(a, b));
                break;
            case 6:
                due("list()", drive.list(), model.list());
                break;
            default:
                due("info()", drive.info(), model.info());
        }
    }

    private void bitCall() {
        int t = someTrack();
        int s = someSector();
        switch (random.nextInt(4)) {
            case 0:
                due("read(" + t + ", " + s + ")", drive.read(t, s), model.read(t, s));
                break;
            case 1:
                int n = random.nextInt();
                due("turn(" + t + ", " + n + ")", drive.turn(t, n), model.turn(t, n));
                break;
            case 2:
                due("syncs(" + t + ")", drive.syncs(t), model.syncs(t));
                break;
            default:
                int i = random.nextInt(1062) - 1;
                due("peek(" + t + ", " + i + ")", drive.peek(t, i), model.peek(t, i));
        }
    }

    private void harm() {
        int t = someTrack();
        int s = someSector();
        int i = random.nextInt(1062) - 1;
        int v = random.nextInt(4) == 0 ? -1 : random.nextInt();
        switch (random.nextInt(7)) {
            case 0:
                due("poke(" + t + ", " + i + ")", drive.poke(t, i, v), model.poke(t, i, v));
                break;
            case 1:
                due("stamp(" + t + ", " + i + ")", drive.stamp(t, i, v), model.stamp(t, i, v));
                break;
            case 2:
                int id = random.nextInt(10) == 0 ? random.nextInt() : model.id;
                due("mount(" + id + ")", drive.mount(id), model.mount(id));
                break;
            case 3:
                fill(4);
                due("write(" + t + ", " + s + ")", drive.write(t, s), model.write(t, s));
                break;
            default:
                bend();
        }
    }

    /** Writes a block back with some of its bytes changed, so that its checksum stays right. */
    private void bend() {
        int t = random.nextBoolean() ? 9 : 8;
        int s = random.nextInt(3);
        int answer = model.read(t, s);
        due("read(" + t + ", " + s + ")", drive.read(t, s), answer);
        if (answer != 0) {
            return;
        }
        int[] bytes = new int[80];
        for (int i = 0; i < 64; i++) {
            bytes[i] = model.out(i);
        }
        if (random.nextBoolean()) {
            bytes[0] = random.nextInt(3) == 0 ? random.nextInt(256) : random.nextInt(10);
            bytes[1] = random.nextInt(random.nextInt(4) == 0 ? 256 : 9);
        }
        for (int n = random.nextInt(4); n > 0; n--) {
            bytes[random.nextInt(64)] = random.nextBoolean() ? random.nextInt(18) : random.nextInt(256);
        }
        due("end(0)", drive.end(0), model.end(0));
        for (int i = 0; i < 80; i += 20) {
            due("feed", drive.feed(number(bytes, i), number(bytes, i + 4), number(bytes, i + 8), number(bytes, i + 12),
                    number(bytes, i + 16)), model.feed(number(bytes, i), number(bytes, i + 4), number(bytes, i + 8),
                    number(bytes, i + 12), number(bytes, i + 16)));
        }
        due("write(" + t + ", " + s + ")", drive.write(t, s), model.write(t, s));
    }

    private static int number(int[] bytes, int at) {
        return bytes[at] << 24 | bytes[at + 1] << 16 | bytes[at + 2] << 8 | bytes[at + 3];
    }
}
