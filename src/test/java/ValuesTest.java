/** Promises 14 to 20: copy, kept, count, stale, packet, entry, price. */
final class ValuesTest {
    public static void main(String[] args) {
        copy();
        copyRefuses();
        kept();
        keptRefuses();
        count();
        countRefuses();
        stale();
        packet();
        packetRefuses();
        entry();
        entryRefuses();
        price();
        readingChangesNothing();
        Check.end();
    }

    /** Client 1 with a copy of entity 4, which is (3, 7), kind 2, health 90. */
    private static WorldDeltas told() {
        WorldDeltas w = new WorldDeltas();
        w.place(4, 3, 7, 2, 90);
        w.connect(1, 4, 10, 6, 30);
        w.tick(6);
        return w;
    }

    private static void dueCopy(WorldDeltas w, int c, int e, int... want) {
        for (int what = 0; what < 7; what++) {
            Check.due("copy(" + c + ", " + e + ", " + what + ")", w.copy(c, e, what), want[what]);
        }
    }

    private static void dueKept(WorldDeltas w, int c, int e, int... want) {
        for (int what = 0; what < 9; what++) {
            Check.due("kept(" + c + ", " + e + ", " + what + ")", w.kept(c, e, what), want[what]);
        }
    }

    private static void dueCounts(WorldDeltas w, int c, int... want) {
        for (int what = 0; what < 9; what++) {
            Check.due("count(" + c + ", " + what + ")", w.count(c, what), want[what]);
        }
    }

    private static void copy() {
        WorldDeltas w = told();
        dueCopy(w, 1, 4, 1, 3, 7, 2, 90, 2, 2);
        dueCopy(w, 1, 5, 0, 0, 0, 0, 0, 0, 0);
        dueCopy(w, 0, 4, 0, 0, 0, 0, 0, 0, 0);
        w.setHealth(4, 8);
        dueCopy(w, 1, 4, 1, 3, 7, 2, 90, 2, 2);
        w.destroy(4);
        w.tick(4);
        dueCopy(w, 1, 4, 0, 0, 0, 0, 0, 3, 3);
        w.tick(30);
        dueCopy(w, 1, 4, 0, 0, 0, 0, 0, 4, 4);
    }

    private static void copyRefuses() {
        WorldDeltas w = told();
        Check.dueThrow("client -1", w, Check.INDEX, () -> w.copy(-1, 0, 7));
        Check.dueThrow("client 3", w, Check.INDEX, () -> w.copy(3, 0, 0));
        Check.dueThrow("entity -1", w, Check.INDEX, () -> w.copy(0, -1, 7));
        Check.dueThrow("entity 16", w, Check.INDEX, () -> w.copy(1, 16, 0));
        Check.dueThrow("what -1", w, Check.ARGUMENT, () -> w.copy(1, 4, -1));
        Check.dueThrow("what 7", w, Check.ARGUMENT, () -> w.copy(0, 0, 7));
    }

    private static void kept() {
        WorldDeltas w = told();
        dueKept(w, 1, 4, 0, 1, 1, 3, 7, 2, 90, 1, 3);
        dueKept(w, 1, 5, 0, 0, 0, 0, 0, 0, 0, 0, WorldDeltas.NONE);
        w.place(4, 20, 7, 1, 80);
        dueKept(w, 1, 4, 0, 1, 1, 3, 7, 2, 90, 0, 16);
        w.tick(1);
        dueKept(w, 1, 4, 100, 1, 1, 3, 7, 2, 90, 0, 16);
        w.tick(1);
        dueKept(w, 1, 4, 0, 2, 1, 3, 7, 2, 90, 0, 16);
        w.tick(4);
        dueKept(w, 1, 4, 0, 3, 0, 0, 0, 0, 0, 0, 16);
        w.destroy(4);
        dueKept(w, 1, 4, 0, 3, 0, 0, 0, 0, 0, 0, WorldDeltas.NONE);
    }

    private static void keptRefuses() {
        WorldDeltas w = told();
        Check.dueThrow("client -1", w, Check.INDEX, () -> w.kept(-1, 0, 9));
        Check.dueThrow("client 3", w, Check.INDEX, () -> w.kept(3, 0, 0));
        Check.dueThrow("entity -1", w, Check.INDEX, () -> w.kept(0, -1, 9));
        Check.dueThrow("entity 16", w, Check.INDEX, () -> w.kept(0, 16, 0));
        Check.dueThrow("what -1", w, Check.ARGUMENT, () -> w.kept(1, 4, -1));
        Check.dueThrow("what 9, not connected", w, Check.ARGUMENT, () -> w.kept(0, 0, 9));
        Check.dueThrow("not connected", w, Check.STATE, () -> w.kept(0, 0, 8));
    }

    private static void count() {
        WorldDeltas w = told();
        dueCounts(w, 1, 2, 20, 0, 0, 1, 0, 1, 0, 2);
        w.lose(1, 1, 1);
        w.setHealth(4, 8);
        w.tick(2);
        dueCounts(w, 1, 3, 27, 1, 0, 2, 0, 1, 0, 3);
        w.tick(4);
        dueCounts(w, 1, 5, 41, 1, 1, 2, 0, 3, 0, 5);
        w.lose(1, 50, 0);
        w.tick(6);
        dueCounts(w, 1, 6, 48, 2, 1, 3, 0, 1, 0, 6);
        w.setHealth(4, 7);
        w.tick(12);
        dueCounts(w, 1, 12, 90, 8, 1, 3, 0, 5, 2, 12);
        dueCounts(w, 0, 0, 0, 0, 0, 0, 0, 0, 0, 0);
    }

    private static void countRefuses() {
        WorldDeltas w = told();
        Check.dueThrow("client -1", w, Check.INDEX, () -> w.count(-1, 9));
        Check.dueThrow("client 3", w, Check.INDEX, () -> w.count(3, 0));
        Check.dueThrow("what -1", w, Check.ARGUMENT, () -> w.count(1, -1));
        Check.dueThrow("what 9", w, Check.ARGUMENT, () -> w.count(0, 9));
    }

    private static void stale() {
        WorldDeltas w = told();
        Check.due("up to date", w.stale(1), 0);
        w.setHealth(4, 1);
        Check.due("another health", w.stale(1), 1);
        w.place(4, 3, 7, 2, 90);
        Check.due("as before", w.stale(1), 0);
        w.place(4, 3, 8, 2, 90);
        Check.due("another y", w.stale(1), 1);
        w.place(4, 3, 7, 1, 90);
        Check.due("another kind", w.stale(1), 1);
        w.place(4, 2, 7, 2, 90);
        Check.due("another x", w.stale(1), 1);
        w.place(9, 4, 4, 0, 0);
        w.place(10, 4, 3, 0, 0);
        Check.due("one without a copy, one outside", w.stale(1), 2);
        w.place(4, 3, 7, 2, 90);
        Check.due("one without a copy", w.stale(1), 1);
        w.destroy(4);
        Check.due("a copy of none", w.stale(1), 2);
        w.look(1, 31, 31, 1);
        Check.due("a copy outside", w.stale(1), 1);
        Check.dueThrow("client -1", w, Check.INDEX, () -> w.stale(-1));
        Check.dueThrow("client 3", w, Check.INDEX, () -> w.stale(3));
        Check.dueThrow("not connected", w, Check.STATE, () -> w.stale(0));
    }

    private static void packet() {
        WorldDeltas w = told();
        w.place(5, 4, 10, 0, 1);
        w.setHealth(4, 8);
        w.tick(5);
        int[][] want = {{3, 13, 2, 3}, {4, 13, 2, 1}};
        for (int i = 0; i < 2; i++) {
            for (int what = 0; what < 4; what++) {
                Check.due("packet " + i + " " + what, w.packet(1, i, what), want[i][what]);
            }
        }
        Check.due("in flight", w.count(1, 6), 2);
    }

    private static void packetRefuses() {
        WorldDeltas w = told();
        Check.dueThrow("client -1", w, Check.INDEX, () -> w.packet(-1, -1, 4));
        Check.dueThrow("client 3", w, Check.INDEX, () -> w.packet(3, 0, 0));
        Check.dueThrow("index -1", w, Check.ARGUMENT, () -> w.packet(1, -1, 0));
        Check.dueThrow("index 1", w, Check.ARGUMENT, () -> w.packet(1, 1, 0));
        Check.dueThrow("index 12", w, Check.ARGUMENT, () -> w.packet(1, 12, 0));
        Check.dueThrow("what -1", w, Check.ARGUMENT, () -> w.packet(1, 0, -1));
        Check.dueThrow("what 4", w, Check.ARGUMENT, () -> w.packet(1, 0, 4));
        Check.dueThrow("not connected", w, Check.ARGUMENT, () -> w.packet(0, 0, 0));
    }

    private static void dueEntry(WorldDeltas w, int index, int entry, int... want) {
        for (int what = 0; what < 5; what++) {
            Check.due("entry(1, " + index + ", " + entry + ", " + what + ")", w.entry(1, index, entry, what), want[what]);
        }
    }

    private static void entry() {
        WorldDeltas w = told();
        dueEntry(w, 0, 0, WorldDeltas.CREATION, 4, 6, 0, 15);
        w.place(5, 4, 10, 0, 1);
        w.place(4, 4, 8, 3, 89);
        w.tick(2);
        dueEntry(w, 0, 0, WorldDeltas.DIFFERENCE, 4, 6, 2, 15);
        dueEntry(w, 0, 1, WorldDeltas.CREATION, 5, 6, 0, 15);
        w.place(4, 3, 9, 2, 90);
        w.tick(2);
        dueEntry(w, 1, 0, WorldDeltas.DIFFERENCE, 4, 3, 2, 2);
        w.destroy(4);
        w.tick(2);
        dueEntry(w, 1, 0, WorldDeltas.REMOVAL, 4, 2, 0, 0);
        dueEntry(w, 0, 0, WorldDeltas.DIFFERENCE, 4, 3, 2, 2);
    }

    private static void entryRefuses() {
        WorldDeltas w = told();
        Check.dueThrow("client -1", w, Check.INDEX, () -> w.entry(-1, -1, -1, 5));
        Check.dueThrow("client 3", w, Check.INDEX, () -> w.entry(3, 0, 0, 0));
        Check.dueThrow("index -1", w, Check.ARGUMENT, () -> w.entry(1, -1, 0, 0));
        Check.dueThrow("index 1", w, Check.ARGUMENT, () -> w.entry(1, 1, 0, 0));
        Check.dueThrow("entry -1", w, Check.ARGUMENT, () -> w.entry(1, 0, -1, 0));
        Check.dueThrow("entry 1", w, Check.ARGUMENT, () -> w.entry(1, 0, 1, 0));
        Check.dueThrow("entry 16", w, Check.ARGUMENT, () -> w.entry(1, 0, 16, 0));
        Check.dueThrow("what -1", w, Check.ARGUMENT, () -> w.entry(1, 0, 0, -1));
        Check.dueThrow("what 5", w, Check.ARGUMENT, () -> w.entry(1, 0, 0, 5));
        Check.dueThrow("not connected", w, Check.ARGUMENT, () -> w.entry(0, 0, 0, 0));
    }

    private static void price() {
        WorldDeltas w = told();
        Check.due("equal", w.price(1, 4), 0);
        Check.due("none", w.price(1, 5), 0);
        w.setHealth(4, 1);
        Check.due("health", w.price(1, 4), 3);
        w.place(4, 3, 7, 3, 1);
        Check.due("kind and health", w.price(1, 4), 4);
        w.place(4, 3, 8, 3, 1);
        Check.due("y too", w.price(1, 4), 5);
        w.place(4, 4, 8, 3, 1);
        Check.due("x too", w.price(1, 4), 6);
        w.place(4, 11, 8, 3, 1);
        Check.due("outside", w.price(1, 4), 2);
        w.destroy(4);
        Check.due("gone", w.price(1, 4), 2);
        w.place(5, 10, 16, 0, 0);
        Check.due("creation", w.price(1, 5), 6);
        w.place(5, 10, 17, 0, 0);
        Check.due("outside and never told", w.price(1, 5), 0);
        Check.dueThrow("client -1", w, Check.INDEX, () -> w.price(-1, 0));
        Check.dueThrow("client 3", w, Check.INDEX, () -> w.price(3, 0));
        Check.dueThrow("entity -1", w, Check.INDEX, () -> w.price(1, -1));
        Check.dueThrow("entity 16, not connected", w, Check.INDEX, () -> w.price(0, 16));
        Check.dueThrow("not connected", w, Check.STATE, () -> w.price(0, 0));
    }

    private static void readingChangesNothing() {
        WorldDeltas w = told();
        long before = w.digest();
        w.time();
        w.entity(4, 1);
        w.copy(1, 4, 1);
        w.kept(1, 4, 0);
        w.count(1, 0);
        w.stale(1);
        w.packet(1, 0, 0);
        w.entry(1, 0, 0, 0);
        w.price(1, 4);
        Check.due("digest", w.digest(), before);
    }
}
