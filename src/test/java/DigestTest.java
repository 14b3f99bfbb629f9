import java.math.BigInteger;

/** Promise 22: the digest is told by the other calls, and by what was told to the object. */
final class DigestTest {
    interface Maker {
        WorldDeltas make();
    }

    /** The hash without any overflow. */
    private BigInteger exact = BigInteger.valueOf(18582);
    private final Maker maker;
    private WorldDeltas world;
    private int calls;

    private DigestTest(Maker maker) {
        this.maker = maker;
        this.world = maker.make();
    }

    public static void main(String[] args) {
        Check.runAll(DigestTest.class);
    }

    private void add(long v) {
        exact = exact.multiply(BigInteger.valueOf(31)).add(BigInteger.valueOf(v));
    }

    /** The world to read from; a new one now and then, since an object is used for 512 calls at most. */
    private WorldDeltas world() {
        calls++;
        if (calls % 400 == 0) {
            world = maker.make();
        }
        return world;
    }

    private void due(String name) {
        Check.due(name, maker.make().digest(), exact.longValue());
    }

    // "It starts with h = 18582. For each of the following values v, in this order, h becomes 31 * h + v (long
    // arithmetic, overflow wraps)."

    static void newObject() {
        DigestTest d = new DigestTest(WorldDeltas::new);
        d.world(0, 2, 2);
        for (int c = 0; c < 3; c++) {
            d.client(c);
        }
        d.due("digest");
        Check.due("it has wrapped around", d.exact.bitLength() > 64, true);
    }

    /** 112 values for the entities, and 122 for each client, are 0; the others of a new object are 0, 0, 2, 2. */
    static void newObjectByItsZeros() {
        long h = 18582;
        for (int v : new int[] {0, 0, 2, 2}) {
            h = 31 * h + v;
        }
        for (int i = 0; i < 16 * 7 + 3 * (1 + 9 + 16 * 7); i++) {
            h = 31 * h;
        }
        Check.due("digest", new WorldDeltas().digest(), h);
    }

    private static WorldDeltas manyThings() {
        WorldDeltas w = new WorldDeltas();
        for (int e = 0; e < 9; e++) {
            w.place(e, 3 * e, 31 - e, e % 4, 9 * e);
            w.setVelocity(e, e % 7 - 3, 3 - e % 5);
        }
        w.setTimes(3, 1);
        w.connect(0, 10, 11, 20, 40);
        w.connect(2, 20, 21, 9, 64);
        w.tick(8);
        w.lose(0, 20, 30);
        w.tick(4);
        w.lose(2, 2, 5);
        w.destroy(8);
        w.tick(1);
        return w;
    }

    static void busyObject() {
        DigestTest d = new DigestTest(DigestTest::manyThings);
        d.world(3, 3, 1);
        d.client(0, 10, 11, 20, 40, 15, 27);
        d.client(1);
        d.client(2, 20, 21, 9, 64, 1, 4);
        d.due("digest");
    }

    private static WorldDeltas undone() {
        WorldDeltas w = manyThings();
        w.undo();
        return w;
    }

    static void busyObjectAfterUndo() {
        DigestTest d = new DigestTest(DigestTest::undone);
        d.world(2, 3, 1);
        d.client(0, 10, 11, 20, 40, 16, 27);
        d.client(1);
        d.client(2, 20, 21, 9, 64, 2, 5);
        d.due("digest");
    }

    // "the number of states on the undo stack"

    static void eachNumberOfSavedStates() {
        for (int saved = 0; saved <= 4; saved++) {
            int n = saved;
            DigestTest d = new DigestTest(() -> sameTimes(n));
            d.world(Math.min(n, 3), 2, 2);
            for (int c = 0; c < 3; c++) {
                d.client(c);
            }
            d.due("digest with " + n + " calls saved");
        }
    }

    private static WorldDeltas sameTimes(int n) {
        WorldDeltas w = new WorldDeltas();
        for (int i = 0; i < n; i++) {
            w.setTimes(2, 2);
        }
        return w;
    }

    // "for each packet in flight packet() of 0 to 3, and for each of its entries entry() of 0 to 4"

    private static WorldDeltas fullPackets() {
        WorldDeltas w = Worlds.seen(16, 64);
        for (int c = 1; c < 3; c++) {
            w.connect(c, 31, 31, 31, 64);
        }
        w.setTimes(10, 1);
        w.tick(14);
        return w;
    }

    static void twelvePacketsForEachClient() {
        DigestTest d = new DigestTest(DigestTest::fullPackets);
        d.world(3, 10, 1);
        d.client(0, 10, 10, 31, 64, 0, 0);
        d.client(1, 31, 31, 31, 64, 0, 0);
        d.client(2, 31, 31, 31, 64, 0, 0);
        d.due("digest");
    }

    // "if it is connected, center x, center y, radius, budget, how many packets and acknowledgements are still going
    // to be lost, stale()"

    private static WorldDeltas disconnected() {
        WorldDeltas w = manyThings();
        w.disconnect(0);
        return w;
    }

    static void disconnectedClient() {
        DigestTest d = new DigestTest(DigestTest::disconnected);
        d.world(3, 3, 1);
        d.client(0);
        d.client(1);
        d.client(2, 20, 21, 9, 64, 1, 4);
        d.due("digest");
    }

    static void digestChangesNothing() {
        WorldDeltas w = Worlds.busy();
        WorldDeltas twin = Worlds.busy();
        long first = w.digest();
        for (int i = 0; i < 5; i++) {
            Check.due("digest again", w.digest(), first);
        }
        w.tick(9);
        twin.tick(9);
        Check.due("digest later", w.digest(), twin.digest());
    }

    private void world(int saved, int delay, int interval) {
        add(saved);
        add(world().time());
        add(delay);
        add(interval);
        for (int e = 0; e < 16; e++) {
            for (int what = 0; what <= 6; what++) {
                add(world().entity(e, what));
            }
        }
    }

    /** The arguments behind the client are for a connected one alone. */
    private void client(int c, int... told) {
        boolean connected = told.length > 0;
        add(connected ? 1 : 0);
        for (int what = 0; what <= 8; what++) {
            add(world().count(c, what));
        }
        for (int value : told) {
            add(value);
        }
        if (connected) {
            add(world().stale(c));
        }
        for (int e = 0; e < 16; e++) {
            clientEntity(c, e, connected);
        }
        for (int i = 0; i < world().count(c, 6); i++) {
            packet(c, i);
        }
    }

    private void clientEntity(int c, int e, boolean connected) {
        for (int what = 0; what <= 6; what++) {
            add(world().copy(c, e, what));
        }
        for (int what = 0; what <= 8 && connected; what++) {
            add(world().kept(c, e, what));
        }
        if (connected) {
            add(world().price(c, e));
        }
    }

    private void packet(int c, int i) {
        for (int what = 0; what <= 3; what++) {
            add(world().packet(c, i, what));
        }
        for (int n = 0; n < world().packet(c, i, 2); n++) {
            for (int what = 0; what <= 4; what++) {
                add(world().entry(c, i, n, what));
            }
        }
    }
}
