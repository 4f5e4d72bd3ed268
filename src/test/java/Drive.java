/** A BitDrive that counts its calls: no test may lean on more than the 512 that are promised. */
final class Drive {
    static final int MOST_CALLS = 512;
    private final BitDrive drive = new BitDrive();
    private int calls = 0;

    private BitDrive counted() {
        calls++;
        if (calls > MOST_CALLS) {
            Check.due("calls of one object", calls, MOST_CALLS);
        }
        return drive;
    }

    int calls() {
        return calls;
    }

    int feed(int a, int b, int c, int d, int e) {
        return counted().feed(a, b, c, d, e);
    }

    int end(int n) {
        return counted().end(n);
    }

    int format(int id, int a, int b) {
        return counted().format(id, a, b);
    }

    int mount(int id) {
        return counted().mount(id);
    }

    int save(int type, int a, int b) {
        return counted().save(type, a, b);
    }

    int load(int a, int b) {
        return counted().load(a, b);
    }

    int scratch(int a, int b) {
        return counted().scratch(a, b);
    }

    int list() {
        return counted().list();
    }

    int info() {
        return counted().info();
    }

    int out(int i) {
        return counted().out(i);
    }

    int status(int what) {
        return counted().status(what);
    }

    int peek(int track, int i) {
        return counted().peek(track, i);
    }

    int poke(int track, int i, int v) {
        return counted().poke(track, i, v);
    }

    int stamp(int track, int i, int v) {
        return counted().stamp(track, i, v);
    }

    int turn(int track, int n) {
        return counted().turn(track, n);
    }

    int syncs(int track) {
        return counted().syncs(track);
    }

    int read(int track, int sector) {
        return counted().read(track, sector);
    }

    int write(int track, int sector) {
        return counted().write(track, sector);
    }

    int count(int what) {
        return counted().count(what);
    }
}
