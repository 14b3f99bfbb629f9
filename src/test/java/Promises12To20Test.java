/** Promises 12 to 20, from tick() to price(): a test for each sentence that names a boundary, in their order. */
final class Promises12To20Test {
    public static void main(String[] args) {
        Check.runAll(Promises12To20Test.class);
    }

    // Promise 12, tick: "ticks: 1 to 50". "Returns the time afterwards."

    static void tickTakesLeastAndGreatest() {
        WorldDeltas w = new WorldDeltas();
        Check.due("the least", w.tick(1), 1);
        Check.due("the greatest", w.tick(50), 51);
        Check.due("time", w.time(), 51);
    }

    static void fiftyTicksAreFiftyTimesOneTick() {
        for (int n = 2; n <= 50; n += 12) {
            WorldDeltas w = Worlds.busy();
            WorldDeltas twin = Worlds.busy();
            for (int i = 0; i < 3; i++) {
                w.tick(n);
                for (int k = 0; k < n; k++) {
                    twin.tick(1);
                }
                Check.due("time after " + n, w.time(), twin.time());
                Check.due("digest after " + n, w.digest(), twin.digest());
            }
        }
    }

    static void tickRefusesTicks() {
        // Where 51 is taken, the greatest int may be taken too, and would run for hours.
        boolean all = true;
        for (int ticks : Check.beyond(1, 50)) {
            all = all && Check.refused("tick " + ticks, Check.ARGUMENT, w -> w.tick(ticks));
        }
    }

    // Promise 13, time: "Returns the time."

    static void timeIsChangedByTicksAlone() {
        WorldDeltas w = Worlds.busy();
        Check.due("time", w.time(), 19);
        w.place(3, 1, 1, 1, 1);
        w.setTimes(3, 3);
        w.connect(0, 1, 1, 1, 12);
        w.disconnect(2);
        Check.due("time", w.time(), 19);
        w.tick(4);
        Check.due("time", w.time(), 23);
        w.undo();
        Check.due("time", w.time(), 19);
    }

    static void theTimeGoesOnFarBeyondTheTicksOfACall() {
        WorldDeltas w = Worlds.seen(1, 12);
        for (int i = 1; i <= 400; i++) {
            Check.due("tick", w.tick(50), 50 * i);
        }
        Check.due("time", w.time(), 20000);
    }

    static void numbersAndCountsGoOnFar() {
        WorldDeltas w = new WorldDeltas();
        // Both turn round at the edges, but not at one time: so there always is a difference to send.
        w.place(0, 0, 5, 0, 5);
        w.place(1, 10, 5, 0, 5);
        w.setVelocity(0, 1, 0);
        w.setVelocity(1, 1, 0);
        w.connect(0, 10, 10, 31, 64);
        w.setTimes(1, 1);
        for (int i = 1; i <= 400; i++) {
            w.tick(50);
        }
        Check.due("packets sent", w.count(0, 0), 20000);
        Check.due("acknowledgements", w.count(0, 4), 19998);
        Check.due("number of the last packet", w.packet(0, 1, 0), 20000);
        Check.due("number of the last record", w.copy(0, 0, 5), 19999);
        Check.due("number of the baseline", w.kept(0, 0, 1), 19998);
        Check.due("bytes are those of the entries and packets", w.count(0, 1) > 20000 * 7, true);
    }

    // Promise 14, copy: "0 1 if it has a copy with a state or 0 if not, 1 x, 2 y, 3 kind, 4 health (1 to 4: 0 without
    // a state), 5 number of the last record (0 without one), 6 number of records"

    private static void dueCopy(String when, WorldDeltas w, int c, int e, int... want) {
        for (int what = 0; what <= 6; what++) {
            Check.due(when + ", copy(" + c + ", " + e + ", " + what + ")", w.copy(c, e, what), want[what]);
        }
    }

    static void copyWithAState() {
        WorldDeltas w = new WorldDeltas();
        w.place(15, 31, 7, 3, 100);
        w.place(0, 0, 8, 0, 0);
        w.connect(2, 16, 16, 16, 64);
        w.setTimes(1, 1);
        w.tick(3);
        dueCopy("two packets", w, 2, 15, 1, 31, 7, 3, 100, 2, 2);
        dueCopy("two packets", w, 2, 0, 1, 0, 8, 0, 0, 2, 2);
    }

    static void copyWithoutAState() {
        WorldDeltas w = Worlds.told(1);
        w.destroy(0);
        w.setTimes(1, 1);
        w.tick(2);
        dueCopy("removed", w, 0, 0, 0, 0, 0, 0, 0, 2, 2);
    }

    static void copyWithoutARecord() {
        WorldDeltas w = Worlds.told(1);
        dueCopy("never told", w, 0, 15, 0, 0, 0, 0, 0, 0, 0);
        dueCopy("not connected", w, 1, 0, 0, 0, 0, 0, 0, 0, 0);
        dueCopy("not connected", w, 2, 15, 0, 0, 0, 0, 0, 0, 0);
    }

    static void copyOfAnEntityThatDoesNotExistAnyMore() {
        WorldDeltas w = Worlds.told(1);
        w.destroy(0);
        dueCopy("destroyed, not yet told", w, 0, 0, 1, 10, 10, 0, 5, 1, 1);
    }

    static void copyRefusesNumbersOfNoClient() {
        for (int c : Check.beyond(0, 2)) {
            Check.refused("copy client " + c, Check.INDEX, w -> w.copy(c, 0, 0));
        }
    }

    static void copyRefusesNumbersOfNoEntity() {
        for (int e : Check.beyond(0, 15)) {
            Check.refused("copy entity " + e, Check.INDEX, w -> w.copy(0, e, 0));
            Check.refused("copy entity " + e + " for one that is not connected", Check.INDEX, w -> w.copy(1, e, 0));
        }
    }

    static void copyRefusesWhat() {
        for (int what : Check.beyond(0, 6)) {
            Check.refused("copy what " + what, Check.ARGUMENT, w -> w.copy(0, 3, what));
            Check.refused("copy what " + what + " without connection", Check.ARGUMENT, w -> w.copy(1, 15, what));
        }
    }

    static void copyThrowsInTheOrderOfTheList() {
        Check.refused("client and what", Check.INDEX, w -> w.copy(3, 0, 7));
        Check.refused("entity and what", Check.INDEX, w -> w.copy(0, 16, -1));
    }

    // Promise 15, kept: "0 priority, 1 number of the baseline, 2 1 if the baseline has a state or 0 if not, 3 x, 4 y, 5
    // kind, 6 health of the baseline (0 without a state), 7 1 if the entity is in the area or 0 if not, 8 its distance
    // (NONE if it does not exist)"

    private static void dueKept(String when, WorldDeltas w, int c, int e, int... want) {
        for (int what = 0; what <= 8; what++) {
            Check.due(when + ", kept(" + c + ", " + e + ", " + what + ")", w.kept(c, e, what), want[what]);
        }
    }

    static void keptWithAState() {
        WorldDeltas w = new WorldDeltas();
        w.place(15, 31, 7, 3, 100);
        w.place(0, 0, 8, 0, 0);
        w.connect(2, 16, 17, 16, 64);
        w.setTimes(1, 1);
        w.tick(1);
        w.setTimes(1, 10);
        w.tick(2);
        dueKept("acknowledged", w, 2, 15, 0, 1, 1, 31, 7, 3, 100, 1, 15);
        dueKept("acknowledged", w, 2, 0, 0, 1, 1, 0, 8, 0, 0, 1, 16);
        w.place(15, 0, 0, 0, 0);
        w.tick(1);
        dueKept("moved out", w, 2, 15, 100, 1, 1, 31, 7, 3, 100, 0, 17);
    }

    static void keptWithoutAState() {
        WorldDeltas w = Worlds.told(1);
        w.look(0, 16, 13, 5);
        w.setTimes(1, 1);
        w.tick(1);
        w.setTimes(1, 10);
        w.tick(2);
        dueKept("removed", w, 0, 0, 0, 2, 0, 0, 0, 0, 0, 0, 6);
    }

    static void keptOfAnEntityThatDoesNotExist() {
        WorldDeltas w = Worlds.told(1);
        dueKept("never placed", w, 0, 15, 0, 0, 0, 0, 0, 0, 0, 0, WorldDeltas.NONE);
        w.destroy(0);
        dueKept("destroyed", w, 0, 0, 0, 1, 1, 10, 10, 0, 5, 0, WorldDeltas.NONE);
    }

    static void keptTellsAreaAndDistanceOfNow() {
        WorldDeltas w = Worlds.told(1);
        w.place(0, 15, 10, 0, 5);
        dueKept("moved to the edge", w, 0, 0, 0, 1, 1, 10, 10, 0, 5, 1, 5);
        w.place(0, 16, 10, 0, 5);
        dueKept("moved out", w, 0, 0, 0, 1, 1, 10, 10, 0, 5, 0, 6);
        w.look(0, 16, 10, 1);
        dueKept("followed", w, 0, 0, 0, 1, 1, 10, 10, 0, 5, 1, 0);
    }

    static void keptRefusesNumbersOfNoClient() {
        for (int c : Check.beyond(0, 2)) {
            Check.refused("kept client " + c, Check.INDEX, w -> w.kept(c, 0, 0));
        }
    }

    static void keptRefusesNumbersOfNoEntity() {
        for (int e : Check.beyond(0, 15)) {
            Check.refused("kept entity " + e, Check.INDEX, w -> w.kept(0, e, 0));
        }
    }

    static void keptRefusesWhat() {
        for (int what : Check.beyond(0, 8)) {
            Check.refused("kept what " + what, Check.ARGUMENT, w -> w.kept(0, 3, what));
        }
    }

    static void keptRefusesAClientThatIsNotConnected() {
        for (int what = 0; what <= 8; what++) {
            int value = what;
            Check.refused("kept what " + what, Check.STATE, w -> w.kept(1, 3, value));
        }
    }

    static void keptThrowsInTheOrderOfTheList() {
        Check.refused("client and what", Check.INDEX, w -> w.kept(3, 0, 9));
        Check.refused("entity and what", Check.INDEX, w -> w.kept(0, -1, -1));
        Check.refused("entity and connection", Check.INDEX, w -> w.kept(1, 16, 0));
        Check.refused("what and connection", Check.ARGUMENT, w -> w.kept(1, 0, -1));
        Check.refused("the greater what and connection", Check.ARGUMENT, w -> w.kept(1, 0, 9));
    }

    // Promise 16, count: "0 packets sent, 1 their bytes, 2 packets lost, 3 acknowledgements lost, 4 acknowledgements
    // received by the server (also of packets that are not in flight any more), 5 broken differences, 6 packets in
    // flight, 7 packets given up, 8 entries sent". "Returns the count; 0 if it is not connected."

    private static void dueCounts(String when, WorldDeltas w, int c, int... want) {
        for (int what = 0; what <= 8; what++) {
            Check.due(when + ", count(" + c + ", " + what + ")", w.count(c, what), want[what]);
        }
    }

    static void countOfPacketsBytesAndEntries() {
        WorldDeltas w = Worlds.seen(3, 16);
        w.setTimes(1, 5);
        dueCounts("at first", w, 0, 0, 0, 0, 0, 0, 0, 0, 0, 0);
        w.tick(5);
        dueCounts("one packet of two creations", w, 0, 1, 16, 0, 0, 0, 0, 1, 0, 2);
        w.tick(5);
        dueCounts("one more of one creation", w, 0, 2, 26, 0, 0, 1, 0, 1, 0, 3);
    }

    static void countOfLostPackets() {
        WorldDeltas w = Worlds.seen(1, 16);
        w.setTimes(1, 5);
        w.lose(0, 1, 0);
        w.tick(4);
        dueCounts("before it is sent", w, 0, 0, 0, 0, 0, 0, 0, 0, 0, 0);
        w.tick(1);
        dueCounts("a lost packet is sent and in flight", w, 0, 1, 10, 1, 0, 0, 0, 1, 0, 1);
    }

    static void countOfLostAcknowledgements() {
        WorldDeltas w = Worlds.seen(1, 16);
        w.setTimes(1, 5);
        w.lose(0, 0, 1);
        w.tick(6);
        dueCounts("a lost acknowledgement", w, 0, 1, 10, 0, 1, 0, 0, 1, 0, 1);
        w.tick(3);
        dueCounts("it does not arrive", w, 0, 1, 10, 0, 1, 0, 0, 1, 0, 1);
    }

    static void countOfAcknowledgementsOfPacketsThatWereGivenUp() {
        WorldDeltas w = Worlds.seen(1, 12);
        w.setTimes(10, 1);
        w.tick(1);
        w.lose(0, 50, 0);
        w.setTimes(1, 1);
        w.tick(10);
        Check.due("#1 is given up", w.count(0, 7) > 0, true);
        Check.due("and not acknowledged", w.count(0, 4), 0);
        w.tick(1);
        Check.due("it is acknowledged", w.count(0, 4), 1);
    }

    static void countOfAcknowledgementsOfPacketsThatWereCleared() {
        WorldDeltas w = Worlds.seen(1, 12);
        w.setTimes(10, 1);
        w.tick(1);
        w.setTimes(1, 1);
        w.tick(1);
        w.setTimes(1, 10);
        w.tick(2);
        Check.due("#2 is acknowledged, and clears #1", w.count(0, 4) * 10 + w.count(0, 6), 10);
        w.tick(8);
        Check.due("#1 is acknowledged", w.count(0, 4), 2);
    }

    static void countOfBrokenDifferences() {
        WorldDeltas w = new WorldDeltas();
        w.setTimes(1, 1);
        w.place(0, 1, 10, 0, 5);
        w.setVelocity(0, 1, 0);
        w.connect(0, 10, 10, 31, 12);
        w.tick(2);
        w.lose(0, 0, 50);
        w.tick(12);
        Check.due("broken", w.count(0, 5), 0);
        for (int i = 1; i <= 4; i++) {
            w.tick(1);
            Check.due("broken", w.count(0, 5), i);
        }
    }

    static void countOfPacketsInFlight() {
        WorldDeltas w = Worlds.seen(1, 12);
        w.setTimes(10, 1);
        for (int i = 1; i <= 14; i++) {
            w.tick(1);
            Check.due("in flight at " + i, w.count(0, 6), Math.min(i, 12));
        }
    }

    static void countOfPacketsGivenUp() {
        WorldDeltas w = Worlds.seen(1, 12);
        w.setTimes(1, 1);
        w.lose(0, 50, 0);
        w.tick(5);
        dueCounts("five in flight", w, 0, 5, 50, 5, 0, 0, 0, 5, 0, 5);
        w.tick(1);
        dueCounts("one given up", w, 0, 6, 60, 6, 0, 0, 0, 5, 1, 6);
        w.tick(10);
        dueCounts("eleven given up", w, 0, 16, 160, 16, 0, 0, 0, 5, 11, 16);
    }

    static void countIsZeroWithoutConnection() {
        WorldDeltas w = Worlds.busy();
        dueCounts("never connected", w, 1, 0, 0, 0, 0, 0, 0, 0, 0, 0);
        w.disconnect(2);
        dueCounts("disconnected", w, 2, 0, 0, 0, 0, 0, 0, 0, 0, 0);
    }

    static void countRefusesNumbersOfNoClient() {
        for (int c : Check.beyond(0, 2)) {
            Check.refused("count client " + c, Check.INDEX, w -> w.count(c, 0));
        }
    }

    static void countRefusesWhat() {
        for (int what : Check.beyond(0, 8)) {
            Check.refused("count what " + what, Check.ARGUMENT, w -> w.count(0, what));
            Check.refused("count what " + what + " without connection", Check.ARGUMENT, w -> w.count(1, what));
        }
    }

    static void countThrowsForTheClientFirst() {
        Check.refused("client and what", Check.INDEX, w -> w.count(3, 9));
        Check.refused("client and what", Check.INDEX, w -> w.count(-1, -1));
    }

    // Promise 17, stale: "those in the area whose state is not equal to the copy (or that have none), and those not in
    // the area of which the client has a copy with a state."

    static void staleCountsEachValueThatDiffers() {
        WorldDeltas w = Worlds.told(1);
        Check.due("equal", w.stale(0), 0);
        int[][] states = {{11, 10, 0, 5}, {10, 9, 0, 5}, {10, 10, 1, 5}, {10, 10, 0, 4}, {15, 15, 3, 100}};
        for (int[] s : states) {
            w.place(0, s[0], s[1], s[2], s[3]);
            Check.due("unequal", w.stale(0), 1);
        }
        w.place(0, 10, 10, 0, 5);
        Check.due("equal again", w.stale(0), 0);
    }

    static void staleCountsThoseWithoutACopy() {
        WorldDeltas w = Worlds.told(1);
        w.place(1, 15, 15, 0, 0);
        Check.due("in the area, never told", w.stale(0), 1);
        w.place(1, 16, 15, 0, 0);
        Check.due("outside, never told", w.stale(0), 0);
    }

    static void staleCountsCopiesOfThoseOutside() {
        WorldDeltas w = Worlds.told(1);
        w.look(0, 15, 10, 5);
        Check.due("at the edge", w.stale(0), 0);
        w.look(0, 16, 10, 5);
        Check.due("outside", w.stale(0), 1);
    }

    static void staleCountsCopiesOfThoseThatDoNotExist() {
        WorldDeltas w = Worlds.told(1);
        w.destroy(0);
        Check.due("destroyed", w.stale(0), 1);
    }

    static void staleDoesNotCountRecordsWithoutStateOutside() {
        WorldDeltas w = Worlds.told(1);
        w.destroy(0);
        w.setTimes(1, 1);
        w.tick(2);
        Check.due("removed", w.stale(0), 0);
        w.place(0, 10, 10, 0, 5);
        Check.due("in the area again, with the state that it had", w.stale(0), 1);
        w.place(0, 16, 10, 0, 5);
        Check.due("outside", w.stale(0), 0);
    }

    static void staleIsFromNoneToSixteen() {
        WorldDeltas w = Worlds.seen(16, 64);
        Check.due("all", w.stale(0), 16);
        w.setTimes(1, 1);
        w.tick(8);
        Check.due("none", w.stale(0), 0);
        w.look(0, 31, 31, 1);
        Check.due("all", w.stale(0), 16);
    }

    static void staleIsAboutTheCopyNotTheBaseline() {
        WorldDeltas w = Worlds.seen(1, 12);
        w.tick(4);
        Check.due("told, not acknowledged", w.kept(0, 0, 2) * 10 + w.stale(0), 0);
        WorldDeltas v = Worlds.told(1);
        v.setHealth(0, 6);
        v.setTimes(1, 1);
        v.tick(2);
        v.setHealth(0, 5);
        Check.due("equal to the baseline, not to the copy", v.kept(0, 0, 6) * 10 + v.stale(0), 51);
    }

    static void staleRefusesNumbersOfNoClient() {
        for (int c : Check.beyond(0, 2)) {
            Check.refused("stale " + c, Check.INDEX, w -> w.stale(c));
        }
    }

    static void staleRefusesAClientThatIsNotConnected() {
        Check.refused("stale", Check.STATE, w -> w.stale(1));
        WorldDeltas w = Worlds.busy();
        w.disconnect(0);
        Check.dueThrow("stale", w, Check.STATE, () -> w.stale(0));
    }

    // Promise 18, packet: "index: number of the packet among those in flight, from 0; the one that was sent first is
    // 0". "what: 0 number, 1 bytes, 2 entries, 3 ticks since it was sent"

    /** Client 0 has the packets #1 (two creations) and #2 (three) in flight; they were sent at the times 2 and 4. */
    private static WorldDeltas twoInFlight() {
        WorldDeltas w = Worlds.seen(2, 64);
        w.setTimes(10, 2);
        w.tick(2);
        w.place(2, 12, 10, 0, 5);
        w.tick(3);
        return w;
    }

    private static void duePacket(WorldDeltas w, int index, int... want) {
        for (int what = 0; what <= 3; what++) {
            Check.due("packet(0, " + index + ", " + what + ")", w.packet(0, index, what), want[what]);
        }
    }

    static void packetReturnsEachValue() {
        WorldDeltas w = twoInFlight();
        duePacket(w, 0, 1, 16, 2, 3);
        duePacket(w, 1, 2, 22, 3, 1);
        w.setTimes(3, 3);
        duePacket(w, 1, 2, 22, 3, 1);
        w.tick(1);
        duePacket(w, 0, 1, 16, 2, 4);
    }

    static void packetTakesIndexesOfThoseInFlightAlone() {
        WorldDeltas w = twoInFlight();
        for (int index : new int[] {-1, 2, 3, 11, 12, Integer.MIN_VALUE, Integer.MAX_VALUE}) {
            Check.dueThrow("packet index " + index, w, Check.ARGUMENT, () -> w.packet(0, index, 0));
        }
    }

    static void packetWithNoneInFlight() {
        WorldDeltas w = Worlds.told(1);
        Check.dueThrow("none is in flight any more", w, Check.ARGUMENT, () -> w.packet(0, 0, 0));
        Check.dueThrow("index -1", w, Check.ARGUMENT, () -> w.packet(0, -1, 0));
        WorldDeltas v = Worlds.seen(1, 12);
        Check.dueThrow("none was ever", v, Check.ARGUMENT, () -> v.packet(0, 0, 0));
    }

    static void packetWithTwelveInFlight() {
        WorldDeltas w = Worlds.seen(1, 12);
        w.setTimes(10, 1);
        w.tick(12);
        duePacket(w, 0, 1, 10, 1, 11);
        duePacket(w, 11, 12, 10, 1, 0);
        Check.dueThrow("index 12", w, Check.ARGUMENT, () -> w.packet(0, 12, 0));
        w.setHealth(0, 6);
        w.tick(9);
        duePacket(w, 0, 2, 10, 1, 19);
        Check.due("#13 takes the last place", w.packet(0, 11, 0) * 10 + w.packet(0, 10, 0), 142);
    }

    static void packetRefusesNumbersOfNoClient() {
        for (int c : Check.beyond(0, 2)) {
            Check.refused("packet client " + c, Check.INDEX, w -> w.packet(c, 0, 0));
        }
    }

    static void packetRefusesIndex() {
        for (int index : Check.beyond(0, 11)) {
            Check.refused("packet index " + index, Check.ARGUMENT, w -> w.packet(0, index, 0));
        }
    }

    static void packetRefusesWhat() {
        for (int what : Check.beyond(0, 3)) {
            Check.refused("packet what " + what, Check.ARGUMENT, w -> w.packet(0, 0, what));
        }
    }

    static void packetRefusesAClientThatIsNotConnected() {
        Check.refused("packet", Check.ARGUMENT, w -> w.packet(1, 0, 0));
        WorldDeltas w = twoInFlight();
        w.disconnect(0);
        Check.dueThrow("packet", w, Check.ARGUMENT, () -> w.packet(0, 0, 0));
    }

    static void packetThrowsForTheClientFirst() {
        Check.refused("client and index", Check.INDEX, w -> w.packet(3, -1, 0));
        Check.refused("client and what", Check.INDEX, w -> w.packet(-1, 0, 4));
        Check.refused("client and what of -1", Check.INDEX, w -> w.packet(3, 0, -1));
    }

    // Promise 19, entry: "entry: number of the entry, from 0". "what: 0 kind: REMOVAL, CREATION or DIFFERENCE; 1
    // entity; 2 bytes; 3 number of the baseline (0 if it is not a difference); 4 bit mask of the values that it
    // contains: 1 x, 2 y, 4 kind, 8 health (15 for a creation, 0 for a removal)"

    private static void dueEntry(WorldDeltas w, int index, int entry, int... want) {
        for (int what = 0; what <= 4; what++) {
            String name = "entry(0, " + index + ", " + entry + ", " + what + ")";
            Check.due(name, w.entry(0, index, entry, what), want[what]);
        }
    }

    static void entryReturnsEachValueOfEachKind() {
        WorldDeltas w = Worlds.told(3);
        w.place(0, 11, 11, 1, 6);
        w.destroy(1);
        w.place(15, 15, 10, 0, 0);
        w.setTimes(1, 1);
        w.tick(1);
        dueEntry(w, 0, 0, WorldDeltas.REMOVAL, 1, 2, 0, 0);
        dueEntry(w, 0, 1, WorldDeltas.DIFFERENCE, 0, 6, 1, 15);
        dueEntry(w, 0, 2, WorldDeltas.CREATION, 15, 6, 0, 15);
        Check.due("bytes", w.packet(0, 0, 1), 18);
    }

    static void entryKindsHaveTheirNumbers() {
        Check.due("REMOVAL", WorldDeltas.REMOVAL, 0);
        Check.due("CREATION", WorldDeltas.CREATION, 1);
        Check.due("DIFFERENCE", WorldDeltas.DIFFERENCE, 2);
        Check.due("NONE", WorldDeltas.NONE, -1);
    }

    static void entryMasksOfEachValueAlone() {
        int[][] states = {{11, 10, 0, 5, 1}, {10, 11, 0, 5, 2}, {10, 10, 1, 5, 4}, {10, 10, 0, 6, 8}};
        for (int[] s : states) {
            WorldDeltas w = Worlds.told(1);
            w.place(0, s[0], s[1], s[2], s[3]);
            w.setTimes(1, 1);
            w.tick(1);
            dueEntry(w, 0, 0, WorldDeltas.DIFFERENCE, 0, 3, 1, s[4]);
        }
    }

    static void entryTakesEntriesOfThePacketAlone() {
        WorldDeltas w = twoInFlight();
        dueEntry(w, 0, 1, WorldDeltas.CREATION, 1, 6, 0, 15);
        dueEntry(w, 1, 2, WorldDeltas.CREATION, 2, 6, 0, 15);
        for (int entry : new int[] {-1, 2, 3, 15, 16, Integer.MIN_VALUE, Integer.MAX_VALUE}) {
            Check.dueThrow("entry " + entry + " of #1", w, Check.ARGUMENT, () -> w.entry(0, 0, entry, 0));
        }
        Check.dueThrow("entry 3 of #2", w, Check.ARGUMENT, () -> w.entry(0, 1, 3, 0));
    }

    static void entryTakesAllSixteen() {
        WorldDeltas w = Worlds.seen(16, 64);
        w.setTimes(1, 1);
        w.tick(6);
        w.look(0, 31, 31, 1);
        w.tick(1);
        for (int e = 0; e < 16; e++) {
            dueEntry(w, 0, e, WorldDeltas.REMOVAL, e, 2, 0, 0);
        }
        Check.dueThrow("entry 16", w, Check.ARGUMENT, () -> w.entry(0, 0, 16, 0));
    }

    static void entryTakesIndexesOfThoseInFlightAlone() {
        WorldDeltas w = twoInFlight();
        for (int index : new int[] {-1, 2, 3, 11, 12, Integer.MIN_VALUE, Integer.MAX_VALUE}) {
            Check.dueThrow("entry index " + index, w, Check.ARGUMENT, () -> w.entry(0, index, 0, 0));
        }
        WorldDeltas v = Worlds.told(1);
        Check.dueThrow("none is in flight any more", v, Check.ARGUMENT, () -> v.entry(0, 0, 0, 0));
    }

    static void entryRefusesNumbersOfNoClient() {
        for (int c : Check.beyond(0, 2)) {
            Check.refused("entry client " + c, Check.INDEX, w -> w.entry(c, 0, 0, 0));
        }
    }

    static void entryRefusesIndexAndEntry() {
        for (int index : Check.beyond(0, 11)) {
            Check.refused("entry index " + index, Check.ARGUMENT, w -> w.entry(0, index, 0, 0));
        }
        for (int entry : Check.beyond(0, 15)) {
            Check.refused("entry " + entry, Check.ARGUMENT, w -> w.entry(0, 0, entry, 0));
        }
    }

    static void entryRefusesWhat() {
        for (int what : Check.beyond(0, 4)) {
            Check.refused("entry what " + what, Check.ARGUMENT, w -> w.entry(0, 0, 0, what));
        }
    }

    static void entryRefusesAClientThatIsNotConnected() {
        Check.refused("entry", Check.ARGUMENT, w -> w.entry(1, 0, 0, 0));
    }

    static void entryThrowsForTheClientFirst() {
        Check.refused("client and index", Check.INDEX, w -> w.entry(3, -1, 0, 0));
        Check.refused("client and entry", Check.INDEX, w -> w.entry(-1, 0, 16, 0));
        Check.refused("client and what", Check.INDEX, w -> w.entry(3, 0, 0, 5));
    }

    // Promise 20, price: "Returns the bytes that an entry for an entity would have now." "Returns the bytes; 0 if there
    // would be no entry for it (the priority would become 0)."

    static void priceIsZeroWithoutAnEntry() {
        WorldDeltas w = Worlds.told(1);
        Check.due("equal to the baseline", w.price(0, 0), 0);
        Check.due("never placed", w.price(0, 15), 0);
        w.place(15, 16, 10, 0, 0);
        Check.due("outside and never told", w.price(0, 15), 0);
    }

    static void priceOfARemoval() {
        WorldDeltas w = Worlds.told(1);
        w.place(0, 15, 10, 0, 5);
        Check.due("at the edge", w.price(0, 0), 3);
        w.place(0, 16, 10, 0, 5);
        Check.due("outside", w.price(0, 0), 2);
        w.destroy(0);
        Check.due("destroyed", w.price(0, 0), 2);
    }

    static void priceAfterAnAcknowledgedRemoval() {
        WorldDeltas w = Worlds.told(1);
        w.destroy(0);
        w.setTimes(1, 1);
        w.tick(1);
        Check.due("not yet acknowledged", w.price(0, 0), 2);
        w.setTimes(1, 10);
        w.tick(2);
        Check.due("acknowledged", w.price(0, 0), 0);
        w.place(0, 10, 10, 0, 5);
        Check.due("there again", w.price(0, 0), 6);
    }

    static void priceOfACreation() {
        WorldDeltas w = Worlds.told(1);
        w.place(15, 15, 15, 0, 0);
        Check.due("at the edge", w.price(0, 15), 6);
    }

    static void priceOfDifferencesFromThreeToSix() {
        WorldDeltas w = Worlds.told(1);
        int[][] states = {{11, 10, 0, 5, 3}, {10, 11, 0, 5, 3}, {10, 10, 3, 5, 3}, {10, 10, 0, 100, 3},
            {11, 11, 0, 5, 4}, {10, 10, 1, 6, 4}, {11, 11, 1, 5, 5}, {10, 11, 1, 6, 5}, {11, 11, 1, 6, 6}};
        for (int[] s : states) {
            w.place(0, s[0], s[1], s[2], s[3]);
            Check.due("difference", w.price(0, 0), s[4]);
        }
    }

    static void priceIsOfNowWhateverThePriority() {
        WorldDeltas w = Worlds.told(1);
        w.setHealth(0, 6);
        Check.due("the priority is 0 before the tick", w.kept(0, 0, 0) * 10 + w.price(0, 0), 3);
        w.tick(1);
        w.setHealth(0, 5);
        Check.due("the priority is 32 still", w.kept(0, 0, 0) * 10 + w.price(0, 0), 320);
    }

    static void priceRefusesNumbersOfNoClient() {
        for (int c : Check.beyond(0, 2)) {
            Check.refused("price client " + c, Check.INDEX, w -> w.price(c, 0));
        }
    }

    static void priceRefusesNumbersOfNoEntity() {
        for (int e : Check.beyond(0, 15)) {
            Check.refused("price entity " + e, Check.INDEX, w -> w.price(0, e));
        }
    }

    static void priceRefusesAClientThatIsNotConnected() {
        Check.refused("price", Check.STATE, w -> w.price(1, 3));
        Check.refused("price of none", Check.STATE, w -> w.price(1, 15));
    }

    static void priceThrowsForTheNumbersFirst() {
        Check.refused("entity and connection", Check.INDEX, w -> w.price(1, 16));
        Check.refused("entity of -1 and connection", Check.INDEX, w -> w.price(1, -1));
        Check.refused("both numbers", Check.INDEX, w -> w.price(3, 16));
    }
}
