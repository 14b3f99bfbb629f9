/** The four examples of the document. */
final class ExamplesTest {
    public static void main(String[] args) {
        creationAndDifference();
        prioritiesInASmallPacket();
        lostPacket();
        reflectionAndExceptions();
        Check.end();
    }

    private static void creationAndDifference() {
        WorldDeltas w = new WorldDeltas();
        Check.due("1 place", w.place(0, 10, 10, 2, 50), false);
        Check.due("1 connect", w.connect(0, 10, 10, 5, 20), false);
        Check.due("1 tick", w.tick(2), 2);
        Check.due("1 entry", w.entry(0, 0, 0, 0), 1);
        Check.due("1 packet", w.packet(0, 0, 1), 10);
        Check.due("1 tick", w.tick(4), 6);
        Check.due("1 copy", w.copy(0, 0, 1), 10);
        Check.due("1 kept", w.kept(0, 0, 1), 1);
        Check.due("1 setHealth", w.setHealth(0, 40), 50);
        Check.due("1 price", w.price(0, 0), 3);
        Check.due("1 tick", w.tick(2), 8);
        Check.due("1 entry", w.entry(0, 0, 0, 4), 8);
        Check.due("1 stale", w.stale(0), 1);
    }

    private static void prioritiesInASmallPacket() {
        WorldDeltas w = new WorldDeltas();
        Check.due("2 place", w.place(0, 10, 10, 0, 5), false);
        Check.due("2 place", w.place(1, 10, 12, 3, 5), false);
        Check.due("2 connect", w.connect(0, 10, 10, 5, 12), false);
        Check.due("2 tick", w.tick(2), 2);
        Check.due("2 entry", w.entry(0, 0, 0, 1), 1);
        Check.due("2 kept", w.kept(0, 0, 0), 64);
        Check.due("2 tick", w.tick(2), 4);
        Check.due("2 entry", w.entry(0, 1, 0, 1), 1);
        Check.due("2 look", w.look(0, 30, 30, 3), 0);
        Check.due("2 stale", w.stale(0), 1);
    }

    private static void lostPacket() {
        WorldDeltas w = new WorldDeltas();
        Check.due("3 place", w.place(0, 10, 10, 0, 5), false);
        Check.due("3 connect", w.connect(0, 10, 10, 5, 12), false);
        Check.due("3 lose", w.lose(0, 1, 0), 0);
        Check.due("3 tick", w.tick(2), 2);
        Check.due("3 count", w.count(0, 2), 1);
        Check.due("3 tick", w.tick(10), 12);
        Check.due("3 count", w.count(0, 7), 0);
        Check.due("3 copy", w.copy(0, 0, 0), 1);
        Check.due("3 tick", w.tick(4), 16);
        Check.due("3 copy", w.copy(0, 0, 5), 3);
        Check.due("3 count", w.count(0, 5), 0);
    }

    private static void reflectionAndExceptions() {
        WorldDeltas w = new WorldDeltas();
        Check.due("4 place", w.place(0, 1, 1, 0, 5), false);
        Check.due("4 setVelocity", w.setVelocity(0, -3, 0), 33);
        Check.due("4 tick", w.tick(1), 1);
        Check.due("4 entity", w.entity(0, 1), 2);
        Check.due("4 entity", w.entity(0, 5), 3);
        Check.due("4 destroy", w.destroy(0), 0);
        Check.dueThrow("4 stale", w, Check.STATE, () -> w.stale(0));
        Check.dueThrow("4 setHealth", w, Check.STATE, () -> w.setHealth(0, 1));
    }
}
