/** The worlds that several tests begin with. */
final class Worlds {
    private Worlds() {
    }

    /** Entities from 0 on, all of them (10, 10), kind 0, health 5; client 0 looks at them, with a radius of 31. */
    static WorldDeltas seen(int entities, int budget) {
        WorldDeltas w = new WorldDeltas();
        for (int e = 0; e < entities; e++) {
            w.place(e, 10, 10, 0, 5);
        }
        w.connect(0, 10, 10, 31, budget);
        return w;
    }

    /**
     * The entities of seen(), told to client 0 (radius 5) and acknowledged with packet 1; nothing is in flight at
     * the time 4, and the delay is 1. The next packet is due at the time 10.
     */
    static WorldDeltas told(int entities) {
        WorldDeltas w = seen(entities, 64);
        w.look(0, 10, 10, 5);
        w.setTimes(1, 1);
        w.tick(1);
        w.setTimes(1, 10);
        w.tick(3);
        return w;
    }

    /**
     * Entities 0 to 11 move; clients 0 and 2 are connected, and have packets and acknowledgements on their way,
     * priorities and losses to come. Client 1 is not connected. The undo stack is full.
     */
    static WorldDeltas busy() {
        WorldDeltas w = new WorldDeltas();
        for (int e = 0; e < 12; e++) {
            w.place(e, 2 * e, 31 - e, e % 4, 5 * e);
            w.setVelocity(e, e % 7 - 3, 3 - e % 5);
        }
        w.connect(0, 10, 10, 20, 20);
        w.connect(2, 20, 20, 9, 64);
        w.setTimes(4, 1);
        w.tick(17);
        w.lose(2, 3, 2);
        w.tick(2);
        w.setHealth(3, 61);
        return w;
    }
}
