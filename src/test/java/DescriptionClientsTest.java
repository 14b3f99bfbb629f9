/** CLIENTS in the description: a test for each sentence that names a boundary, in their order. */
final class DescriptionClientsTest {
    public static void main(String[] args) {
        Check.runAll(DescriptionClientsTest.class);
    }

    // "There are three clients, numbered from 0, none of which is connected at first."

    static void thereAreThreeClients() {
        WorldDeltas w = new WorldDeltas();
        w.place(0, 10, 10, 0, 0);
        for (int c = 0; c < 3; c++) {
            Check.due("connect " + c, w.connect(c, 10 + c, 10, 5, 12), false);
        }
        for (int c = 0; c < 3; c++) {
            Check.due("distance for " + c, w.kept(c, 0, 8), c);
        }
        Check.dueThrow("there is no 3", w, Check.INDEX, () -> w.connect(3, 10, 10, 5, 12));
        Check.dueThrow("there is no -1", w, Check.INDEX, () -> w.connect(-1, 10, 10, 5, 12));
    }

    static void noClientIsConnectedAtFirst() {
        WorldDeltas w = new WorldDeltas();
        for (int client = 0; client < 3; client++) {
            int c = client;
            Check.dueThrow("stale " + c, w, Check.STATE, () -> w.stale(c));
            Check.dueThrow("disconnect " + c, w, Check.STATE, () -> w.disconnect(c));
        }
    }

    // "A connected client has a center (x and y), a radius (1 to 31) and a budget (12 to 64)."

    static void leastAndGreatestRadius() {
        WorldDeltas w = new WorldDeltas();
        w.place(0, 31, 31, 0, 0);
        w.connect(0, 0, 0, 31, 12);
        Check.due("31 reaches over the whole world", w.kept(0, 0, 7), 1);
        w.connect(0, 0, 0, 30, 12);
        Check.due("30 does not", w.kept(0, 0, 7), 0);
        w.connect(0, 30, 30, 1, 12);
        Check.due("1 reaches the next", w.kept(0, 0, 7), 1);
        w.connect(0, 29, 30, 1, 12);
        Check.due("1 does not reach further", w.kept(0, 0, 7), 0);
    }

    static void leastAndGreatestBudget() {
        WorldDeltas least = Worlds.seen(16, 12);
        least.tick(2);
        Check.due("a packet of at most 12", least.packet(0, 0, 1), 10);
        WorldDeltas greatest = Worlds.seen(16, 64);
        greatest.tick(2);
        Check.due("a packet of at most 64", greatest.packet(0, 0, 1), 64);
    }

    // "An entity is in its area if it exists, and both its coordinates differ from those of the center by at most
    // the radius."

    /** Whether an entity there is in the area with the center (15, 15) and the radius 4. */
    private static void dueInArea(int x, int y, int want) {
        WorldDeltas w = new WorldDeltas();
        w.place(2, x, y, 0, 0);
        w.connect(1, 15, 15, 4, 12);
        Check.due("kept 7 at (" + x + ", " + y + ")", w.kept(1, 2, 7), want);
        Check.due("look at (" + x + ", " + y + ")", w.look(1, 15, 15, 4), want);
        Check.due("price at (" + x + ", " + y + ")", w.price(1, 2), 6 * want);
        Check.due("stale at (" + x + ", " + y + ")", w.stale(1), want);
    }

    static void aDifferenceOfTheRadiusIsInTheArea() {
        dueInArea(15, 15, 1);
        dueInArea(11, 15, 1);
        dueInArea(19, 15, 1);
        dueInArea(15, 11, 1);
        dueInArea(15, 19, 1);
        dueInArea(11, 11, 1);
        dueInArea(19, 11, 1);
        dueInArea(11, 19, 1);
        dueInArea(19, 19, 1);
    }

    static void aDifferenceOfOneMoreIsNotInTheArea() {
        dueInArea(10, 15, 0);
        dueInArea(20, 15, 0);
        dueInArea(15, 10, 0);
        dueInArea(15, 20, 0);
        dueInArea(10, 19, 0);
        dueInArea(19, 20, 0);
        dueInArea(20, 20, 0);
    }

    static void anEntityThatDoesNotExistIsNotInTheArea() {
        WorldDeltas w = new WorldDeltas();
        w.connect(0, 0, 0, 31, 12);
        Check.due("never placed", w.kept(0, 4, 7), 0);
        Check.due("none in the area", w.look(0, 0, 0, 31), 0);
        w.place(4, 0, 0, 0, 0);
        Check.due("placed", w.kept(0, 4, 7), 1);
        w.destroy(4);
        Check.due("destroyed", w.kept(0, 4, 7), 0);
        Check.due("none in the area any more", w.look(0, 0, 0, 31), 0);
    }

    // "Its distance is the greater one of these two differences."

    static void theDistanceIsTheGreaterDifference() {
        int[][] distances = {{15, 15, 0}, {16, 15, 1}, {14, 15, 1}, {15, 16, 1}, {15, 14, 1}, {12, 17, 3},
            {17, 12, 3}, {18, 13, 3}, {13, 18, 3}, {18, 18, 3}, {0, 31, 16}, {31, 0, 16}, {0, 15, 15}};
        WorldDeltas w = new WorldDeltas();
        w.connect(1, 15, 15, 1, 12);
        for (int[] d : distances) {
            w.place(2, d[0], d[1], 0, 0);
            Check.due("distance of (" + d[0] + ", " + d[1] + ")", w.kept(1, 2, 8), d[2]);
        }
        w.look(1, 0, 0, 1);
        w.place(2, 31, 0, 0, 0);
        Check.due("the greatest one", w.kept(1, 2, 8), 31);
    }

    // "For each client and entity the server keeps a priority (0 at first) and a baseline: a state with the number
    // of the packet that contained it, or no state with such a number (at first no state with the number 0)."

    static void priorityAndBaselineAtFirst() {
        WorldDeltas w = new WorldDeltas();
        w.place(15, 9, 9, 3, 9);
        w.connect(2, 9, 9, 31, 12);
        for (int e = 0; e < 16; e++) {
            for (int what = 0; what <= 6; what++) {
                Check.due("kept " + e + " " + what, w.kept(2, e, what), 0);
            }
        }
        Check.due("a creation would be due", w.price(2, 15), 6);
    }

    static void aBaselineIsAStateWithTheNumberOfItsPacket() {
        WorldDeltas w = Worlds.told(2);
        w.setHealth(1, 6);
        w.setTimes(1, 1);
        w.tick(1);
        w.setTimes(1, 10);
        w.tick(2);
        Check.due("number for the one that changed", w.kept(0, 1, 1), 2);
        Check.due("its health", w.kept(0, 1, 6), 6);
        Check.due("number for the other one", w.kept(0, 0, 1), 1);
        Check.due("its health", w.kept(0, 0, 6), 5);
    }

    static void aBaselineWithoutStateHasANumberToo() {
        WorldDeltas w = Worlds.told(2);
        w.destroy(1);
        w.setTimes(1, 1);
        w.tick(1);
        w.setTimes(1, 10);
        w.tick(2);
        Check.due("number", w.kept(0, 1, 1), 2);
        for (int what = 2; what <= 6; what++) {
            Check.due("kept " + what, w.kept(0, 1, what), 0);
        }
    }

    // "For each client the server keeps the packets that are in flight, at most 12, in the order in which they were
    // sent, and the number of the last packet that it sent (0 at first)."

    static void atMostTwelvePacketsInOrder() {
        WorldDeltas w = Worlds.seen(1, 12);
        w.setTimes(10, 1);
        w.tick(11);
        Check.due("eleven", w.count(0, 6), 11);
        w.tick(1);
        Check.due("twelve", w.count(0, 6), 12);
        w.tick(1);
        Check.due("twelve still", w.count(0, 6), 12);
        for (int i = 0; i < 12; i++) {
            Check.due("number of packet " + i, w.packet(0, i, 0), i + 1);
            Check.due("ticks since packet " + i, w.packet(0, i, 3), 12 - i);
        }
        Check.dueThrow("there is no packet 12", w, Check.ARGUMENT, () -> w.packet(0, 12, 0));
    }

    static void theFirstPacketHasTheNumberOne() {
        WorldDeltas w = Worlds.seen(1, 12);
        w.connect(1, 10, 10, 5, 12);
        w.tick(2);
        Check.due("number for client 0", w.packet(0, 0, 0), 1);
        Check.due("number for client 1", w.packet(1, 0, 0), 1);
    }

    // "A client keeps for each entity a list of records, none at first, each of which has the number of a packet
    // and a state or no state; .."

    static void noRecordsAtFirst() {
        WorldDeltas w = new WorldDeltas();
        w.place(0, 3, 3, 3, 3);
        w.connect(0, 3, 3, 3, 12);
        for (int e = 0; e < 16; e++) {
            for (int what = 0; what <= 6; what++) {
                Check.due("copy " + e + " " + what, w.copy(0, e, what), 0);
            }
        }
    }

    /** Entity 0 moves by 1 in each tick; all packets arrive, and none is acknowledged from #2 on. */
    private static WorldDeltas records() {
        WorldDeltas w = new WorldDeltas();
        w.setTimes(1, 1);
        w.place(0, 1, 10, 0, 5);
        w.setVelocity(0, 1, 0);
        w.connect(0, 10, 10, 31, 12);
        w.tick(2);
        w.lose(0, 0, 50);
        return w;
    }

    // ".. they are ordered by their numbers, and only the latest 12 are kept."

    static void twelveRecordsAreKept() {
        WorldDeltas w = records();
        w.tick(10);
        Check.due("eleven records", w.copy(0, 0, 6), 11);
        w.tick(1);
        Check.due("twelve records", w.copy(0, 0, 6), 12);
        Check.due("the twelfth is the last", w.copy(0, 0, 5), 12);
        w.tick(1);
        Check.due("twelve records after the thirteenth", w.copy(0, 0, 6), 12);
        Check.due("the thirteenth is the last", w.copy(0, 0, 5), 13);
        Check.due("and the copy", w.copy(0, 0, 1), 14);
    }

    static void theOldestRecordIsDropped() {
        WorldDeltas w = records();
        w.tick(12);
        Check.due("the difference of #13 to #1 is not broken", w.count(0, 5), 0);
        w.tick(1);
        Check.due("the difference of #14 to #1 is", w.count(0, 5), 1);
        Check.due("baseline", w.kept(0, 0, 1), 1);
    }

    static void theSecondOldestRecordIsNotDropped() {
        WorldDeltas w = records();
        // #2 is acknowledged, so that the differences are to it when #1 falls out.
        w.lose(0, 0, 0);
        w.tick(1);
        w.lose(0, 0, 50);
        w.tick(11);
        Check.due("thirteen were received", w.copy(0, 0, 5), 13);
        Check.due("baseline", w.kept(0, 0, 1), 2);
        w.tick(1);
        Check.due("the difference of #14 to #2 is not broken", w.count(0, 5), 0);
        Check.due("its copy", w.copy(0, 0, 1), 15);
        w.tick(1);
        Check.due("the difference of #15 to #2 is", w.count(0, 5), 1);
    }

    /**
     * Entity 15 moves in each tick, and its health is another one each time, but for the odd times from 19 on, when it
     * is 5. All packets arrive; #19 is the last one that is acknowledged. So all later differences belong to its
     * record, which goes through all places of a full list; at odd times the health is as there, and is not in them.
     */
    static void eachOfTheTwelveRecordsCanBeBuiltOn() {
        WorldDeltas w = new WorldDeltas();
        w.setTimes(1, 1);
        w.place(15, 1, 10, 2, 5);
        w.setVelocity(15, 1, 0);
        w.connect(0, 10, 10, 31, 12);
        int x = 0;
        int health = 0;
        for (int t = 1; t <= 33; t++) {
            w.setHealth(15, t >= 19 && t % 2 == 1 ? 5 : 50 + t);
            if (t == 21) {
                w.lose(0, 0, 50);
            }
            w.tick(1);
            if (t > 1 && t < 33) {
                Check.due("broken at " + t, w.count(0, 5), 0);
                Check.due("x at " + t, w.copy(0, 15, 1), x);
                Check.due("health at " + t, w.copy(0, 15, 4), health);
                Check.due("records at " + t, w.copy(0, 15, 6), Math.min(t - 1, 12));
            }
            x = w.entity(15, 1);
            health = w.entity(15, 4);
        }
        Check.due("the baseline", w.kept(0, 15, 1), 19);
        Check.due("#32 comes when #19 is dropped", w.count(0, 5), 1);
        Check.due("the last record", w.copy(0, 15, 5), 31);
    }

    static void eachEntityHasItsOwnRecords() {
        WorldDeltas w = records();
        w.tick(12);
        w.setTimes(1, 1);
        w.place(1, 1, 1, 0, 0);
        w.tick(4);
        Check.due("records of entity 0", w.copy(0, 0, 6), 12);
        Check.due("entity 1 has some of its own", w.copy(0, 1, 6) > 0 && w.copy(0, 1, 6) < 5, true);
        Check.due("entity 15 has none", w.copy(0, 15, 6), 0);
    }

    // "The copy that the client has of an entity is the state of its last record, none if that has no state or there
    // is no record."

    static void theCopyIsTheStateOfTheLastRecord() {
        WorldDeltas w = Worlds.told(1);
        w.place(0, 12, 13, 2, 99);
        w.setTimes(1, 1);
        w.tick(2);
        int[] want = {1, 12, 13, 2, 99};
        for (int what = 0; what <= 4; what++) {
            Check.due("copy " + what, w.copy(0, 0, what), want[what]);
        }
    }

    static void aLastRecordWithoutStateIsNoCopy() {
        WorldDeltas w = Worlds.told(1);
        w.destroy(0);
        w.setTimes(1, 1);
        w.tick(2);
        for (int what = 0; what <= 4; what++) {
            Check.due("copy " + what, w.copy(0, 0, what), 0);
        }
        Check.due("number of the last record", w.copy(0, 0, 5), 2);
        Check.due("records", w.copy(0, 0, 6), 2);
    }

    static void withoutARecordThereIsNoCopy() {
        WorldDeltas w = Worlds.told(1);
        Check.due("copy of another entity", w.copy(0, 1, 0), 0);
        Check.due("copy of another client", w.copy(1, 0, 0), 0);
    }
}
