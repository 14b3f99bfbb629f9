/** Promises 12 and 13, with the steps of a tick, priorities and packets as the description tells them. */
final class TicksTest {
    public static void main(String[] args) {
        tickAndTime();
        moves();
        priorities();
        prioritiesOutsideTheArea();
        onlyAtTheInterval();
        arrivalAndAcknowledgement();
        entriesInOrderOfPriority();
        laterEntriesMayFit();
        budgetIsFilledExactly();
        differencesAndRemovals();
        removalIsAcknowledged();
        atMostTwelveInFlight();
        givenUpAfterItsTime();
        givenUpWithPresentTimes();
        givenUpPacketStillArrives();
        overtakenPacketIsIgnored();
        acknowledgementClearsEarlierPackets();
        differencesBreak();
        lowestPriorityIsSent();
        lastPacketIsGivenUp();
        differencesToRecordsThatMovedUp();
        clientsDoNotShare();
        Check.end();
    }

    private static WorldDeltas seen(int entities, int budget) {
        WorldDeltas w = new WorldDeltas();
        for (int e = 0; e < entities; e++) {
            w.place(e, 10, 10, 0, 5);
        }
        w.connect(0, 10, 10, 31, budget);
        return w;
    }

    private static void tickAndTime() {
        WorldDeltas w = new WorldDeltas();
        Check.due("tick", w.tick(1), 1);
        Check.due("tick", w.tick(50), 51);
        Check.due("time", w.time(), 51);
        Check.dueThrow("tick 0", w, Check.ARGUMENT, () -> w.tick(0));
        Check.dueThrow("tick -1", w, Check.ARGUMENT, () -> w.tick(-1));
        Check.dueThrow("tick 51", w, Check.ARGUMENT, () -> w.tick(51));
        Check.due("time", w.time(), 51);
    }

    private static void duePlace(WorldDeltas w, int x, int y, int vx, int vy) {
        Check.due("x at " + w.time(), w.entity(0, 1), x);
        Check.due("y at " + w.time(), w.entity(0, 2), y);
        Check.due("vx at " + w.time(), w.entity(0, 5), vx);
        Check.due("vy at " + w.time(), w.entity(0, 6), vy);
    }

    private static void moves() {
        WorldDeltas w = new WorldDeltas();
        w.place(0, 3, 28, 2, 9);
        w.setVelocity(0, -3, 3);
        w.tick(1);
        duePlace(w, 0, 31, -3, 3);
        w.tick(1);
        duePlace(w, 3, 28, 3, -3);
        w.setVelocity(0, -2, 2);
        w.tick(2);
        duePlace(w, 1, 30, 2, -2);
        w.tick(1);
        duePlace(w, 3, 28, 2, -2);
        Check.due("the kind stays", w.entity(0, 3), 2);
        Check.due("the health stays", w.entity(0, 4), 9);
        w.destroy(0);
        w.tick(1);
        w.place(0, 5, 5, 0, 0);
        w.tick(3);
        duePlace(w, 5, 5, 0, 0);
    }

    private static void priorities() {
        WorldDeltas w = new WorldDeltas();
        for (int kind = 0; kind < 4; kind++) {
            w.place(kind, 10 + kind, 8, kind, 1);
        }
        w.place(4, 21, 10, 3, 1);
        w.place(5, 0, 20, 3, 1);
        w.setTimes(2, 10);
        w.connect(0, 10, 10, 10, 64);
        w.tick(3);
        int[] want = {30 * 3, 2 * 30 * 3, 4 * 30 * 3, 8 * 29 * 3, 0, 8 * 22 * 3};
        for (int e = 0; e < 6; e++) {
            Check.due("priority " + e, w.kept(0, e, 0), want[e]);
        }
        w.place(1, 10, 10, 3, 1);
        w.look(0, 10, 10, 9);
        w.tick(1);
        Check.due("the kind and the place of now count", w.kept(0, 1, 0), 180 + 8 * 32);
        Check.due("not in the area any more", w.kept(0, 5, 0), 0);
        w.tick(6);
        Check.due("in the packet", w.kept(0, 1, 0), 0);
        w.tick(3);
        Check.due("again until it is acknowledged", w.kept(0, 1, 0), 3 * 256);
        w.tick(1);
        Check.due("equal to the baseline", w.kept(0, 1, 0), 0);
        Check.due("baseline", w.kept(0, 1, 1), 1);
    }

    private static void prioritiesOutsideTheArea() {
        WorldDeltas w = seen(2, 64);
        w.setTimes(1, 5);
        w.tick(8);
        Check.due("baseline", w.kept(0, 0, 2), 1);
        w.destroy(0);
        w.look(0, 31, 31, 1);
        w.place(2, 0, 0, 0, 0);
        w.tick(1);
        Check.due("destroyed", w.kept(0, 0, 0), 100);
        Check.due("left behind", w.kept(0, 1, 0), 100);
        Check.due("never told", w.kept(0, 2, 0), 0);
        Check.due("distance of none", w.kept(0, 0, 8), WorldDeltas.NONE);
        w.look(0, 10, 10, 31);
        w.tick(1);
        Check.due("in a packet", w.kept(0, 0, 0), 0);
        Check.due("in the area again, equal to the baseline", w.kept(0, 1, 0), 0);
    }

    private static void onlyAtTheInterval() {
        WorldDeltas w = seen(1, 12);
        w.setTimes(2, 3);
        w.tick(2);
        Check.due("not yet", w.count(0, 0), 0);
        w.tick(1);
        Check.due("at 3", w.count(0, 0), 1);
        w.setTimes(2, 4);
        w.tick(3);
        Check.due("at 4, not at 6", w.count(0, 0), 2);
    }

    private static void arrivalAndAcknowledgement() {
        WorldDeltas w = seen(1, 12);
        w.setTimes(3, 10);
        w.tick(10);
        Check.due("sent", w.packet(0, 0, 3), 0);
        w.tick(2);
        Check.due("not yet", w.copy(0, 0, 6), 0);
        w.tick(1);
        Check.due("received", w.copy(0, 0, 6), 1);
        Check.due("its state", w.copy(0, 0, 1) * 100 + w.copy(0, 0, 2), 1010);
        w.tick(2);
        Check.due("acknowledgement on its way", w.count(0, 4), 0);
        Check.due("in flight", w.packet(0, 0, 3), 5);
        Check.due("no baseline", w.kept(0, 0, 2), 0);
        w.tick(1);
        Check.due("acknowledged", w.count(0, 4), 1);
        Check.due("not in flight", w.count(0, 6), 0);
        Check.due("baseline", w.kept(0, 0, 2), 1);
        w.tick(10);
        Check.due("nothing to send", w.count(0, 0), 1);
    }

    private static void entriesInOrderOfPriority() {
        WorldDeltas w = new WorldDeltas();
        w.place(0, 10, 10, 0, 1);
        w.place(3, 10, 10, 1, 1);
        w.place(7, 10, 12, 1, 1);
        w.place(5, 12, 10, 1, 1);
        w.place(9, 14, 14, 2, 1);
        w.place(11, 26, 10, 2, 1);
        w.connect(2, 10, 10, 16, 64);
        w.tick(2);
        int[] want = {9, 3, 11, 5, 7, 0};
        Check.due("entries", w.packet(2, 0, 2), 6);
        for (int i = 0; i < 6; i++) {
            Check.due("entry " + i, w.entry(2, 0, i, 1), want[i]);
        }
    }

    private static void laterEntriesMayFit() {
        WorldDeltas w = seen(1, 15);
        w.setTimes(1, 4);
        w.tick(7);
        Check.due("baseline", w.kept(0, 0, 2), 1);
        w.setHealth(0, 6);
        w.place(1, 10, 10, 3, 5);
        w.place(2, 10, 10, 2, 5);
        w.tick(1);
        Check.due("entries", w.packet(0, 0, 2), 2);
        Check.due("first", w.entry(0, 0, 0, 1), 1);
        Check.due("left out", w.kept(0, 2, 0), 4 * 32);
        Check.due("fits", w.entry(0, 0, 1, 1), 0);
        Check.due("its priority", w.kept(0, 0, 0), 0);
        Check.due("bytes", w.packet(0, 0, 1), 13);
    }

    private static void budgetIsFilledExactly() {
        WorldDeltas w = seen(3, 16);
        w.tick(2);
        Check.due("16 bytes", w.packet(0, 0, 1), 16);
        Check.due("two entries", w.packet(0, 0, 2), 2);
        WorldDeltas v = seen(3, 15);
        v.tick(2);
        Check.due("10 bytes", v.packet(0, 0, 1), 10);
        Check.due("counted bytes", v.count(0, 1), 10);
        Check.due("counted entries", v.count(0, 8), 1);
    }

    private static void differencesAndRemovals() {
        WorldDeltas w = seen(3, 64);
        w.setTimes(1, 1);
        w.tick(3);
        Check.due("sent", w.count(0, 0), 2);
        w.place(0, 11, 10, 3, 6);
        w.place(1, 10, 31, 0, 5);
        w.destroy(2);
        w.tick(1);
        int last = w.count(0, 6) - 1;
        // #2 was sent before the acknowledgement of #1 was there, and is acknowledged in this tick.
        int[][] want = {
            {WorldDeltas.DIFFERENCE, 0, 5, 2, 13},
            {WorldDeltas.REMOVAL, 2, 2, 0, 0},
            {WorldDeltas.DIFFERENCE, 1, 3, 2, 2}};
        for (int i = 0; i < 3; i++) {
            for (int what = 0; what < 5; what++) {
                Check.due("entry " + i + " " + what, w.entry(0, last, i, what), want[i][what]);
            }
        }
        Check.due("bytes", w.packet(0, last, 1), 14);
        w.tick(1);
        Check.due("x", w.copy(0, 0, 1), 11);
        Check.due("y", w.copy(0, 0, 2), 10);
        Check.due("kind", w.copy(0, 0, 3), 3);
        Check.due("health", w.copy(0, 0, 4), 6);
        Check.due("y of 1", w.copy(0, 1, 2), 31);
        Check.due("no state of 2", w.copy(0, 2, 0), 0);
        Check.due("number of 2", w.copy(0, 2, 5), 3);
        Check.due("records of 2", w.copy(0, 2, 6), 3);
        Check.due("stale", w.stale(0), 0);
    }

    private static void removalIsAcknowledged() {
        WorldDeltas w = seen(1, 64);
        w.setTimes(1, 1);
        w.tick(4);
        w.destroy(0);
        w.tick(2);
        Check.due("removals are sent until one is acknowledged", w.count(0, 0), 4);
        w.tick(2);
        Check.due("no state in the baseline", w.kept(0, 0, 2), 0);
        Check.due("number of the baseline", w.kept(0, 0, 1), 4);
        Check.due("no entry", w.price(0, 0), 0);
        Check.due("no more packets", w.count(0, 0), 4);
        w.place(0, 1, 1, 1, 1);
        Check.due("a creation again", w.price(0, 0), 6);
        w.tick(1);
        Check.due("a creation again", w.entry(0, 0, 0, 0), WorldDeltas.CREATION);
        Check.due("without a baseline", w.entry(0, 0, 0, 3), 0);
    }

    private static void atMostTwelveInFlight() {
        WorldDeltas w = seen(1, 64);
        w.setTimes(10, 1);
        w.lose(0, 50, 0);
        w.tick(12);
        Check.due("twelve", w.count(0, 6), 12);
        w.tick(10);
        Check.due("no more", w.count(0, 0), 12);
        Check.due("the priority goes on", w.kept(0, 0, 0), 320);
        Check.due("all lost", w.count(0, 2), 12);
    }

    private static void givenUpAfterItsTime() {
        WorldDeltas w = seen(1, 64);
        w.lose(0, 50, 0);
        w.tick(11);
        Check.due("in flight", w.count(0, 6), 5);
        Check.due("9 ticks", w.packet(0, 0, 3), 9);
        Check.due("given up", w.count(0, 7), 0);
        w.tick(1);
        Check.due("given up", w.count(0, 7), 1);
        Check.due("the next is the first", w.packet(0, 0, 0), 2);
        Check.due("and another was sent", w.count(0, 6), 5);
    }

    private static void givenUpWithPresentTimes() {
        WorldDeltas w = seen(1, 64);
        w.setTimes(10, 1);
        w.lose(0, 50, 0);
        w.tick(20);
        Check.due("in flight", w.count(0, 6), 12);
        w.setTimes(2, 5);
        w.tick(1);
        Check.due("eight of at least 13 ticks", w.count(0, 7), 8);
        Check.due("in flight", w.count(0, 6), 4);
        Check.due("12 ticks", w.packet(0, 0, 3), 12);
    }

    private static void givenUpPacketStillArrives() {
        WorldDeltas w = seen(1, 64);
        w.setTimes(10, 1);
        w.tick(1);
        w.lose(0, 50, 0);
        w.setTimes(1, 1);
        w.tick(9);
        Check.due("nothing yet", w.copy(0, 0, 6), 0);
        Check.due("the first one is given up", w.packet(0, 0, 0), 6);
        w.tick(1);
        Check.due("received", w.copy(0, 0, 5), 1);
        w.tick(1);
        Check.due("acknowledged", w.count(0, 4), 1);
        Check.due("too late", w.kept(0, 0, 1), 0);
        Check.due("the others stay in flight", w.count(0, 6), 5);
    }

    private static void overtakenPacketIsIgnored() {
        WorldDeltas w = seen(1, 64);
        w.setTimes(5, 1);
        w.tick(1);
        w.setHealth(0, 99);
        w.setTimes(1, 1);
        w.tick(1);
        w.lose(0, 50, 50);
        w.tick(2);
        Check.due("the second one is there", w.copy(0, 0, 5), 2);
        w.tick(2);
        Check.due("the first one adds no record", w.copy(0, 0, 6), 1);
        Check.due("the copy stays", w.copy(0, 0, 4), 99);
        Check.due("but it is acknowledged", w.count(0, 3), 2);
    }

    private static void acknowledgementClearsEarlierPackets() {
        WorldDeltas w = seen(1, 64);
        w.lose(0, 2, 0);
        w.tick(9);
        Check.due("in flight", w.count(0, 6), 4);
        w.tick(1);
        Check.due("#1 to #3 are cleared", w.packet(0, 0, 0), 4);
        Check.due("none is given up", w.count(0, 7), 0);
        Check.due("the baseline", w.kept(0, 0, 1), 3);
        Check.due("the first is lost in count", w.count(0, 2), 2);
    }

    private static void differencesBreak() {
        WorldDeltas w = new WorldDeltas();
        w.setTimes(1, 1);
        w.place(0, 1, 10, 0, 5);
        w.setVelocity(0, 1, 0);
        w.connect(0, 10, 10, 31, 12);
        w.tick(2);
        w.lose(0, 0, 50);
        w.tick(11);
        Check.due("all twelve records", w.copy(0, 0, 6), 12);
        Check.due("the baseline", w.kept(0, 0, 1), 1);
        w.tick(1);
        Check.due("the thirteenth can still be built", w.count(0, 5), 0);
        Check.due("only the latest twelve are kept", w.copy(0, 0, 6), 12);
        Check.due("the last record", w.copy(0, 0, 5), 13);
        Check.due("its x", w.copy(0, 0, 1), 14);
        w.tick(1);
        Check.due("its record is gone", w.count(0, 5), 1);
        Check.due("no record is added", w.copy(0, 0, 5), 13);
        Check.due("the acknowledgement is sent all the same", w.count(0, 3), 13);
        w.lose(0, 0, 0);
        w.tick(2);
        Check.due("the server builds on it", w.kept(0, 0, 1), 15);
        Check.due("and the client is broken on", w.copy(0, 0, 5), 13);
        Check.due("broken", w.count(0, 5), 3);
    }

    private static void lowestPriorityIsSent() {
        WorldDeltas w = new WorldDeltas();
        w.place(6, 31, 31, 0, 5);
        w.connect(0, 0, 0, 31, 12);
        w.setTimes(2, 1);
        w.tick(1);
        Check.due("sent with a priority of 1", w.count(0, 0), 1);
        w.tick(1);
        w.look(0, 0, 0, 30);
        w.tick(1);
        Check.due("not sent without a priority", w.count(0, 0), 2);
    }

    private static void lastPacketIsGivenUp() {
        WorldDeltas w = seen(1, 64);
        w.setTimes(1, 2);
        w.lose(0, 1, 0);
        w.tick(2);
        w.destroy(0);
        w.tick(5);
        Check.due("in flight", w.count(0, 6), 1);
        w.tick(1);
        Check.due("given up", w.count(0, 7), 1);
        Check.due("none in flight", w.count(0, 6), 0);
        Check.due("and none was sent", w.count(0, 0), 1);
    }

    private static void differencesToRecordsThatMovedUp() {
        WorldDeltas w = new WorldDeltas();
        w.setTimes(1, 1);
        w.place(0, 1, 10, 0, 1);
        w.setVelocity(0, 1, 0);
        w.connect(0, 10, 10, 31, 12);
        for (int i = 2; i < 20; i++) {
            w.tick(1);
            w.setHealth(0, i);
        }
        w.tick(3);
        int last = w.count(0, 6) - 1;
        Check.due("the health is as in the baseline", w.entry(0, last, 0, 4), 1);
        w.tick(1);
        Check.due("records", w.copy(0, 0, 6), 12);
        Check.due("x", w.copy(0, 0, 1), 22);
        Check.due("health", w.copy(0, 0, 4), 19);
        Check.due("broken", w.count(0, 5), 0);
    }

    private static void clientsDoNotShare() {
        WorldDeltas w = new WorldDeltas();
        w.place(0, 10, 10, 0, 5);
        w.connect(0, 10, 10, 5, 12);
        w.connect(2, 20, 10, 31, 64);
        w.lose(2, 1, 0);
        w.tick(4);
        Check.due("client 0 has a copy", w.copy(0, 0, 0), 1);
        Check.due("client 2 has none", w.copy(2, 0, 0), 0);
        Check.due("client 1 has none", w.copy(1, 0, 0), 0);
        Check.due("distance for 2", w.kept(2, 0, 8), 10);
        Check.due("lost by 0", w.count(0, 2), 0);
        w.disconnect(2);
        Check.due("client 0 still has it", w.copy(0, 0, 0), 1);
    }
}
