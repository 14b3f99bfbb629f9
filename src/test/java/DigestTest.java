/** Promise 22: the digest is told by the other calls, and by what was told to the object. */
final class DigestTest {
    private long h;

    public static void main(String[] args) {
        newObject();
        busyObject();
        Check.end();
    }

    private void add(long v) {
        h = 31 * h + v;
    }

    private static void newObject() {
        WorldDeltas w = new WorldDeltas();
        DigestTest d = new DigestTest();
        d.world(w, 0, 2, 2);
        for (int c = 0; c < 3; c++) {
            d.client(w, c);
        }
        Check.due("digest", w.digest(), d.h);
        Check.due("digest again", w.digest(), d.h);
    }

    private static void busyObject() {
        WorldDeltas w = new WorldDeltas();
        for (int e = 0; e < 9; e++) {
            w.place(e, 3 * e, 31 - e, e % 4, 9 * e);
            w.setVelocity(e, e % 7 - 3, 3 - e % 5);
        }
        w.setTimes(3, 1);
        w.connect(0, 10, 11, 20, 40);
        w.connect(2, 20, 21, 9, 64);
        w.tick(8);
        w.lose(0, 20, 30);
        w.tick(4);
        w.lose(2, 2, 5);
        w.destroy(8);
        w.tick(1);
        DigestTest d = new DigestTest();
        d.world(w, 3, 3, 1);
        d.client(w, 0, 10, 11, 20, 40, 15, 27);
        d.client(w, 1);
        d.client(w, 2, 20, 21, 9, 64, 1, 4);
        Check.due("digest", w.digest(), d.h);
        w.undo();
        DigestTest u = new DigestTest();
        u.world(w, 2, 3, 1);
        u.client(w, 0, 10, 11, 20, 40, 16, 27);
        u.client(w, 1);
        u.client(w, 2, 20, 21, 9, 64, 2, 5);
        Check.due("digest after undo", w.digest(), u.h);
    }

    private void world(WorldDeltas w, int saved, int delay, int interval) {
        h = 18582;
        add(saved);
        add(w.time());
        add(delay);
        add(interval);
        for (int e = 0; e < 16; e++) {
            for (int what = 0; what <= 6; what++) {
                add(w.entity(e, what));
            }
        }
    }

    /** The arguments behind the client are for a connected one alone. */
    private void client(WorldDeltas w, int c, int... told) {
        boolean connected = told.length > 0;
        add(connected ? 1 : 0);
        for (int what = 0; what <= 8; what++) {
            add(w.count(c, what));
        }
        for (int value : told) {
            add(value);
        }
        if (connected) {
            add(w.stale(c));
        }
        for (int e = 0; e < 16; e++) {
            for (int what = 0; what <= 6; what++) {
                add(w.copy(c, e, what));
            }
            for (int what = 0; what <= 8 && connected; what++) {
                add(w.kept(c, e, what));
            }
            if (connected) {
                add(w.price(c, e));
            }
        }
        for (int i = 0; i < w.count(c, 6); i++) {
            for (int what = 0; what <= 3; what++) {
                add(w.packet(c, i, what));
            }
            for (int n = 0; n < w.packet(c, i, 2); n++) {
                for (int what = 0; what <= 4; what++) {
                    add(w.entry(c, i, n, what));
                }
            }
        }
    }
}
