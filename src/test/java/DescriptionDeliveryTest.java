/** PACKETS in the description, as far as they arrive and are acknowledged or given up: a test for each boundary. */
final class DescriptionDeliveryTest {
    public static void main(String[] args) {
        Check.runAll(DescriptionDeliveryTest.class);
    }

    // "It arrives delay ticks later, if it is not lost."

    static void itArrivesDelayTicksLater() {
        for (int delay = 1; delay <= 10; delay++) {
            WorldDeltas w = Worlds.seen(1, 12);
            w.setTimes(delay, 10);
            w.tick(10);
            for (int later = 1; later <= delay; later++) {
                Check.due("before the tick " + later + " of " + delay, w.copy(0, 0, 6), 0);
                w.tick(1);
            }
            Check.due("after " + delay, w.copy(0, 0, 6), 1);
        }
    }

    static void aLostPacketDoesNotArrive() {
        WorldDeltas w = Worlds.seen(1, 12);
        w.setTimes(2, 10);
        w.lose(0, 1, 0);
        w.tick(19);
        Check.due("records", w.copy(0, 0, 6), 0);
        Check.due("acknowledgements", w.count(0, 3) + w.count(0, 4), 0);
        Check.due("packets lost", w.count(0, 2), 1);
    }

    /** #1 is sent at the time 1, and arrives at 11. #2 arrives at 3; it has entity 0 alone, with another health. */
    private static WorldDeltas slowAndFast() {
        WorldDeltas w = Worlds.seen(2, 64);
        w.setTimes(10, 1);
        w.tick(1);
        w.destroy(1);
        w.setHealth(0, 6);
        w.setTimes(1, 1);
        w.tick(1);
        w.setTimes(1, 10);
        return w;
    }

    static void aPacketThatAnAcknowledgementClearedStillArrives() {
        WorldDeltas w = slowAndFast();
        w.tick(2);
        Check.due("#2 is acknowledged, and clears #1", w.count(0, 4) * 10 + w.count(0, 6), 10);
        w.tick(6);
        Check.due("#1 is not there", w.copy(0, 1, 6), 0);
        w.tick(1);
        Check.due("#1 is there", w.copy(0, 1, 5), 1);
        Check.due("its state", w.copy(0, 1, 0) * 10000 + w.copy(0, 1, 1) * 100 + w.copy(0, 1, 4), 11005);
    }

    /** #1 arrives at the time 11; at the time 6 it was given up. All later packets are lost. */
    private static WorldDeltas slowAndGivenUp() {
        WorldDeltas w = Worlds.seen(1, 12);
        w.setTimes(10, 1);
        w.tick(1);
        w.lose(0, 50, 0);
        w.setTimes(1, 1);
        w.tick(5);
        Check.due("#1 is given up", w.count(0, 7) * 10 + w.packet(0, 0, 0), 12);
        return w;
    }

    static void aPacketThatWasGivenUpStillArrives() {
        WorldDeltas w = slowAndGivenUp();
        w.tick(4);
        Check.due("#1 is not there", w.copy(0, 0, 6), 0);
        w.tick(1);
        Check.due("#1 is there", w.copy(0, 0, 6), 1);
        Check.due("number of its record", w.copy(0, 0, 5), 1);
    }

    // "When a client receives a packet with the number n, then for each entry, in its order: if the client has a
    // record of the entity with a number of at least n, nothing happens." (A record with the number n itself cannot
    // be there: a packet has one entry for an entity at most, and arrives once.)

    static void anOlderPacketAddsNoRecord() {
        WorldDeltas w = slowAndFast();
        w.tick(8);
        Check.due("the record of #2", w.copy(0, 0, 6) * 100 + w.copy(0, 0, 5), 102);
        w.tick(1);
        Check.due("it is the only one", w.copy(0, 0, 6) * 100 + w.copy(0, 0, 5), 102);
        Check.due("and the copy", w.copy(0, 0, 4), 6);
    }

    static void anOlderPacketAddsRecordsOfOtherEntities() {
        WorldDeltas w = slowAndFast();
        w.tick(9);
        Check.due("record of entity 1", w.copy(0, 1, 6) * 100 + w.copy(0, 1, 5), 101);
    }

    static void theNextNumberAddsARecord() {
        WorldDeltas w = Worlds.seen(1, 12);
        w.setTimes(1, 1);
        w.tick(2);
        Check.due("record", w.copy(0, 0, 6) * 100 + w.copy(0, 0, 5), 101);
        w.tick(1);
        Check.due("record", w.copy(0, 0, 6) * 100 + w.copy(0, 0, 5), 202);
    }

    static void anOlderCreationAfterARemovalIsIgnored() {
        WorldDeltas w = Worlds.seen(1, 12);
        w.setTimes(10, 1);
        w.tick(1);
        w.setTimes(1, 1);
        w.tick(1);
        w.setTimes(1, 10);
        w.tick(2);
        w.destroy(0);
        w.setTimes(1, 1);
        w.tick(1);
        w.setTimes(1, 10);
        w.tick(5);
        Check.due("#2 and the removal #3 are there", w.copy(0, 0, 6) * 100 + w.copy(0, 0, 5), 203);
        w.tick(1);
        Check.due("#1 adds nothing", w.copy(0, 0, 6) * 100 + w.copy(0, 0, 5), 203);
        Check.due("there is no copy", w.copy(0, 0, 0), 0);
    }

    static void anOlderDifferenceAfterARemovalIsIgnored() {
        WorldDeltas w = Worlds.told(1);
        w.setHealth(0, 6);
        w.setTimes(5, 1);
        w.tick(1);
        w.destroy(0);
        w.setTimes(1, 1);
        w.tick(1);
        w.lose(0, 50, 0);
        w.tick(1);
        Check.due("#1 and the removal #3 are there", w.copy(0, 0, 6) * 100 + w.copy(0, 0, 5), 203);
        w.tick(3);
        Check.due("#2 adds nothing", w.copy(0, 0, 6) * 100 + w.copy(0, 0, 5), 203);
        Check.due("there is no copy", w.copy(0, 0, 0), 0);
    }

    static void anOlderDifferenceIsNotBroken() {
        WorldDeltas w = unacknowledged();
        w.tick(10);
        w.setTimes(10, 1);
        w.tick(1);
        w.setTimes(1, 1);
        w.tick(1);
        w.lose(0, 50, 50);
        w.tick(8);
        Check.due("#13 is not there, and #1 is not kept", w.copy(0, 0, 6) * 100 + w.copy(0, 0, 5), 1214);
        Check.due("acknowledgements lost", w.count(0, 3), 12);
        w.tick(1);
        Check.due("#13 is there", w.count(0, 3), 13);
        Check.due("and is not broken", w.count(0, 5), 0);
        Check.due("and adds nothing", w.copy(0, 0, 6) * 100 + w.copy(0, 0, 5), 1214);
    }

    // "Otherwise a record with n is added: for a removal without state; for a creation with the state; .."

    static void aRemovalAddsARecordWithoutState() {
        WorldDeltas w = Worlds.told(1);
        w.destroy(0);
        w.setTimes(1, 1);
        w.tick(2);
        int[] want = {0, 0, 0, 0, 0, 2, 2};
        for (int what = 0; what <= 6; what++) {
            Check.due("copy " + what, w.copy(0, 0, what), want[what]);
        }
    }

    static void aCreationAddsARecordWithTheState() {
        WorldDeltas w = new WorldDeltas();
        w.place(15, 31, 0, 3, 100);
        w.place(0, 0, 31, 0, 0);
        w.connect(2, 16, 16, 16, 64);
        w.setTimes(1, 1);
        w.tick(2);
        int[] greatest = {1, 31, 0, 3, 100, 1, 1};
        int[] least = {1, 0, 31, 0, 0, 1, 1};
        for (int what = 0; what <= 6; what++) {
            Check.due("copy of 15, " + what, w.copy(2, 15, what), greatest[what]);
            Check.due("copy of 0, " + what, w.copy(2, 0, what), least[what]);
        }
    }

    // ".. for a difference with the state of the record that has the number of the baseline, with the values of the
    // entry in it."

    static void aDifferenceBelongsToTheRecordOfTheBaselineNotToTheLast() {
        WorldDeltas w = Worlds.told(1);
        w.lose(0, 0, 1);
        w.setHealth(0, 9);
        w.setTimes(1, 1);
        w.tick(1);
        w.setTimes(1, 10);
        w.tick(1);
        Check.due("health by #2, whose acknowledgement is lost", w.copy(0, 0, 4), 9);
        w.place(0, 12, 10, 0, 5);
        w.setTimes(1, 1);
        w.tick(1);
        Check.due("x alone differs from #1", w.entry(0, 1, 0, 4) * 10 + w.entry(0, 1, 0, 3), 11);
        w.setTimes(1, 10);
        w.tick(1);
        Check.due("x by #3", w.copy(0, 0, 1), 12);
        Check.due("health by #1", w.copy(0, 0, 4), 5);
    }

    // "If there is no such record with a state, no record is added, and the number of broken differences of the
    // client increases by 1." (A record with the number of a baseline that has a state has that state.)

    /** Entity 0 moves in each tick; all packets arrive, and only #1 is acknowledged. The time is 2. */
    private static WorldDeltas unacknowledged() {
        WorldDeltas w = new WorldDeltas();
        w.setTimes(1, 1);
        w.place(0, 1, 10, 0, 5);
        w.setVelocity(0, 1, 0);
        w.connect(0, 10, 10, 31, 12);
        w.tick(2);
        w.lose(0, 0, 50);
        return w;
    }

    static void aDifferenceToADroppedRecordIsBroken() {
        WorldDeltas w = unacknowledged();
        w.tick(12);
        Check.due("none is broken", w.count(0, 5), 0);
        Check.due("records", w.copy(0, 0, 6) * 100 + w.copy(0, 0, 5), 1213);
        w.tick(1);
        Check.due("one is broken", w.count(0, 5), 1);
        Check.due("no record is added", w.copy(0, 0, 6) * 100 + w.copy(0, 0, 5), 1213);
        w.tick(1);
        Check.due("the next one is broken too", w.count(0, 5), 2);
    }

    static void aDifferenceToABrokenOneIsBroken() {
        WorldDeltas w = unacknowledged();
        w.tick(13);
        w.lose(0, 0, 0);
        w.tick(2);
        Check.due("the baseline is #15, which was broken", w.kept(0, 0, 1) * 100 + w.count(0, 5), 1503);
        w.tick(1);
        Check.due("the difference #17 belongs to #15", w.copy(0, 0, 5) * 100 + w.count(0, 5), 1304);
    }

    /**
     * #2 was faster than #1, and its acknowledgement was lost. So the baselines of the entities 0 and 1 are #1, of
     * which the client has no record. #3 has a difference for each of them and a creation; it is on its way.
     */
    private static WorldDeltas withoutTheRecord() {
        WorldDeltas w = Worlds.seen(2, 64);
        w.setTimes(3, 1);
        w.tick(1);
        w.setTimes(1, 1);
        w.tick(1);
        w.lose(0, 50, 1);
        w.setTimes(1, 10);
        w.tick(3);
        Check.due("the baseline is #1", w.kept(0, 0, 1) * 10 + w.kept(0, 1, 1), 11);
        w.lose(0, 0, 0);
        w.setHealth(0, 6);
        w.setHealth(1, 6);
        w.place(2, 10, 10, 0, 8);
        w.setTimes(1, 1);
        w.tick(1);
        w.setTimes(1, 10);
        Check.due("#3 is sent", w.packet(0, 1, 0) * 10 + w.packet(0, 1, 2), 33);
        return w;
    }

    static void aDifferenceToARecordThatNeverWasIsBroken() {
        WorldDeltas w = withoutTheRecord();
        Check.due("broken before", w.count(0, 5), 0);
        w.tick(1);
        Check.due("each of the two entries counts", w.count(0, 5), 2);
        Check.due("records of 0", w.copy(0, 0, 6) * 100 + w.copy(0, 0, 5), 102);
        Check.due("records of 1", w.copy(0, 1, 6) * 100 + w.copy(0, 1, 5), 102);
        Check.due("the copy stays", w.copy(0, 0, 4), 5);
    }

    static void otherEntriesOfItsPacketAreTaken() {
        WorldDeltas w = withoutTheRecord();
        w.tick(1);
        Check.due("record of 2", w.copy(0, 2, 6) * 100 + w.copy(0, 2, 5), 103);
        Check.due("its health", w.copy(0, 2, 4), 8);
    }

    // "Then the client sends an acknowledgement of n, which arrives delay ticks later, if it is not lost."

    static void anAcknowledgementArrivesDelayTicksLater() {
        for (int delay = 1; delay <= 10; delay++) {
            WorldDeltas w = Worlds.seen(1, 12);
            w.setTimes(3, 10);
            w.tick(10);
            w.lose(0, 50, 0);
            // The delay in the tick in which the packet is received counts.
            w.setTimes(delay, 10);
            w.tick(3);
            w.setTimes(11 - delay, 10);
            for (int later = 1; later <= delay; later++) {
                Check.due("before the tick " + later + " of " + delay, w.count(0, 4), 0);
                w.tick(1);
            }
            Check.due("after " + delay, w.count(0, 4), 1);
        }
    }

    static void acknowledgementsGoOnForLong() {
        WorldDeltas w = Worlds.seen(1, 12);
        w.setVelocity(0, 1, 2);
        w.setTimes(2, 1);
        for (int t = 5; t <= 100; t += 5) {
            w.tick(5);
            Check.due("received at " + t, w.count(0, 4), t - 4);
            Check.due("records have come at " + t, w.copy(0, 0, 5), t - 2);
            Check.due("baseline at " + t, w.kept(0, 0, 1), t - 4);
        }
    }

    static void anIgnoredPacketIsAcknowledged() {
        WorldDeltas w = Worlds.seen(1, 12);
        w.setTimes(3, 1);
        w.tick(1);
        w.setTimes(1, 1);
        w.tick(1);
        w.lose(0, 50, 1);
        w.setTimes(1, 10);
        w.tick(2);
        Check.due("#1 was ignored", w.copy(0, 0, 6) * 100 + w.copy(0, 0, 5), 102);
        Check.due("the acknowledgement of #2 is lost", w.count(0, 3) * 10 + w.count(0, 4), 10);
        w.tick(1);
        Check.due("that of #1 is there", w.count(0, 4), 1);
        Check.due("and #2 is still in flight", w.count(0, 6) * 10 + w.packet(0, 0, 0), 12);
    }

    static void aBrokenPacketIsAcknowledged() {
        WorldDeltas w = withoutTheRecord();
        w.tick(2);
        Check.due("acknowledgements of #1 and #3", w.count(0, 4), 2);
        Check.due("the server builds on it", w.kept(0, 0, 1) * 100 + w.kept(0, 0, 6), 306);
        Check.due("in flight", w.count(0, 6), 0);
    }

    static void aLostAcknowledgementDoesNotArrive() {
        WorldDeltas w = Worlds.seen(1, 12);
        w.setTimes(1, 10);
        w.lose(0, 0, 1);
        w.tick(10);
        Check.due("none is lost yet", w.count(0, 3), 0);
        w.tick(1);
        Check.due("it is lost when it would be sent", w.count(0, 3), 1);
        w.tick(8);
        Check.due("none has arrived", w.count(0, 4), 0);
        Check.due("the packet is in flight", w.packet(0, 0, 0), 1);
        Check.due("the baseline has no state", w.kept(0, 0, 2), 0);
    }

    // "When the server receives an acknowledgement of n from a client: if the packet n is not in flight any more,
    // nothing happens."

    static void theAcknowledgementOfAPacketThatWasGivenUp() {
        WorldDeltas w = slowAndGivenUp();
        w.tick(5);
        Check.due("none is there", w.count(0, 4), 0);
        int inFlight = w.count(0, 6);
        w.tick(1);
        Check.due("it is received", w.count(0, 4), 1);
        Check.due("the baseline stays", w.kept(0, 0, 1) * 10 + w.kept(0, 0, 2), 0);
        Check.due("all others are in flight", w.count(0, 6), inFlight);
        Check.due("the first of them", w.packet(0, 0, 0), 8);
    }

    static void theAcknowledgementOfAPacketThatWasCleared() {
        WorldDeltas w = slowAndFast();
        w.tick(7);
        w.setHealth(0, 7);
        w.setTimes(2, 1);
        w.tick(2);
        Check.due("#1 has arrived, #3 and #4 are in flight", w.copy(0, 1, 5) * 10 + w.count(0, 6), 12);
        Check.due("acknowledgements", w.count(0, 4), 1);
        w.lose(0, 0, 50);
        w.tick(2);
        Check.due("that of #1 is received", w.count(0, 4), 2);
        Check.due("the baseline of 0 stays", w.kept(0, 0, 1) * 10 + w.kept(0, 0, 6), 26);
        Check.due("the baseline of 1 stays", w.kept(0, 1, 1) * 10 + w.kept(0, 1, 2), 0);
        Check.due("the first in flight", w.packet(0, 0, 0), 3);
    }

    // "Otherwise, for each of its entries: if n is greater than the number of the baseline of the entity, the
    // baseline becomes the state that the entry contains or leads to (no state for a removal), with the number n."
    // (It always is greater: a packet with a smaller number would have been cleared.)

    private static void dueBaseline(WorldDeltas w, int e, int... want) {
        for (int what = 1; what <= 6; what++) {
            Check.due("kept " + what + " of " + e, w.kept(0, e, what), want[what - 1]);
        }
    }

    static void theBaselineIsTheStateOfACreation() {
        WorldDeltas w = new WorldDeltas();
        w.place(3, 31, 0, 3, 100);
        w.place(4, 0, 31, 1, 0);
        w.connect(0, 16, 16, 16, 64);
        w.setTimes(1, 1);
        w.tick(1);
        w.place(3, 9, 9, 1, 9);
        w.tick(2);
        dueBaseline(w, 3, 1, 1, 31, 0, 3, 100);
        dueBaseline(w, 4, 1, 1, 0, 31, 1, 0);
    }

    static void theBaselineIsTheStateToWhichADifferenceLeads() {
        WorldDeltas w = Worlds.told(2);
        w.place(0, 12, 10, 0, 99);
        w.place(1, 10, 13, 2, 5);
        w.setTimes(1, 1);
        w.tick(1);
        w.setTimes(1, 10);
        w.destroy(0);
        w.setHealth(1, 77);
        w.tick(2);
        dueBaseline(w, 0, 2, 1, 12, 10, 0, 99);
        dueBaseline(w, 1, 2, 1, 10, 13, 2, 5);
    }

    static void theBaselineHasNoStateAfterARemoval() {
        WorldDeltas w = Worlds.told(2);
        w.look(0, 30, 30, 5);
        w.destroy(1);
        w.setTimes(1, 1);
        w.tick(1);
        w.setTimes(1, 10);
        w.tick(1);
        dueBaseline(w, 0, 1, 1, 10, 10, 0, 5);
        w.tick(1);
        dueBaseline(w, 0, 2, 0, 0, 0, 0, 0);
        dueBaseline(w, 1, 2, 0, 0, 0, 0, 0);
    }

    static void baselinesOfOtherEntitiesStay() {
        WorldDeltas w = Worlds.told(3);
        w.setHealth(1, 6);
        w.setTimes(1, 1);
        w.tick(1);
        w.setTimes(1, 10);
        w.tick(2);
        dueBaseline(w, 0, 1, 1, 10, 10, 0, 5);
        dueBaseline(w, 1, 2, 1, 10, 10, 0, 6);
        dueBaseline(w, 2, 1, 1, 10, 10, 0, 5);
    }

    // "Then this packet and all packets of this client that were sent before it are not in flight any more."

    static void anAcknowledgementClearsItsPacketAndAllBefore() {
        WorldDeltas w = Worlds.seen(1, 12);
        w.setTimes(2, 1);
        w.lose(0, 2, 0);
        w.tick(3);
        w.lose(0, 50, 0);
        w.tick(3);
        Check.due("in flight", w.count(0, 6), 6);
        w.tick(1);
        Check.due("#3 is acknowledged", w.kept(0, 0, 1), 3);
        Check.due("#4 to #6 are in flight", w.count(0, 6) * 10 + w.packet(0, 0, 0), 34);
        Check.due("those that were cleared are not given up", w.count(0, 7), 0);
    }

    static void anAcknowledgementClearsNoPacketOfAnotherClient() {
        WorldDeltas w = Worlds.seen(1, 12);
        w.connect(2, 10, 10, 31, 12);
        w.lose(2, 50, 0);
        w.tick(6);
        Check.due("client 0", w.kept(0, 0, 1) * 10 + w.packet(0, 0, 0), 12);
        Check.due("client 2", w.kept(2, 0, 1) * 10 + w.packet(2, 0, 0), 1);
        Check.due("in flight for client 2", w.count(2, 6), 3);
    }

    // "A packet that is in flight for 4 * delay + interval ticks or longer (with the present values) at the beginning
    // of step (3) for its client is not in flight any more, and counts as given up."

    private static void dueGivenUp(int delay, int interval) {
        String times = " with " + delay + " and " + interval;
        WorldDeltas w = Worlds.seen(1, 12);
        w.lose(0, 50, 0);
        w.setTimes(delay, interval);
        w.tick(interval);
        int limit = 4 * delay + interval;
        for (int i = 1; i < limit; i++) {
            w.tick(1);
        }
        Check.due("#1 is in flight" + times, w.packet(0, 0, 0), 1);
        Check.due("for one tick less" + times, w.packet(0, 0, 3), limit - 1);
        Check.due("none is given up" + times, w.count(0, 7), 0);
        w.tick(1);
        Check.due("one is given up" + times, w.count(0, 7), 1);
        Check.due("#2 is the first" + times, w.packet(0, 0, 0), 2);
    }

    static void givenUpAtItsTimeAndNotBefore() {
        dueGivenUp(1, 1);
        dueGivenUp(2, 2);
        dueGivenUp(1, 10);
        dueGivenUp(10, 1);
        dueGivenUp(10, 10);
        dueGivenUp(3, 7);
    }

    static void givenUpWhenTheValuesHaveFallen() {
        WorldDeltas w = Worlds.seen(1, 12);
        w.lose(0, 50, 0);
        w.setTimes(10, 10);
        w.tick(40);
        Check.due("in flight", w.count(0, 6), 4);
        w.setTimes(1, 10);
        Check.due("none is given up before the tick", w.count(0, 7), 0);
        w.tick(1);
        Check.due("those of 31 and 21 ticks are, that of 11 is not", w.count(0, 7), 2);
        Check.due("#3 is the first", w.packet(0, 0, 0) * 100 + w.packet(0, 0, 3), 311);
    }

    static void notGivenUpWhenTheValuesHaveRisen() {
        WorldDeltas w = Worlds.seen(1, 12);
        w.lose(0, 50, 0);
        w.setTimes(1, 1);
        w.tick(1);
        w.setTimes(2, 10);
        w.tick(17);
        Check.due("17 ticks", w.packet(0, 0, 0) * 100 + w.packet(0, 0, 3), 117);
        w.tick(1);
        Check.due("18 ticks", w.count(0, 7), 1);
    }

    static void givenUpInATickWithoutPackets() {
        WorldDeltas w = Worlds.seen(1, 12);
        w.lose(0, 50, 0);
        w.setTimes(1, 10);
        w.tick(23);
        Check.due("#1 and #2 are in flight", w.count(0, 6), 2);
        w.tick(1);
        Check.due("#2 is, at the time 24", w.count(0, 6) * 10 + w.packet(0, 0, 0), 12);
    }

    static void givenUpBeforeThePacketIsSent() {
        WorldDeltas w = Worlds.seen(1, 12);
        w.lose(0, 50, 0);
        w.setTimes(3, 1);
        w.tick(13);
        Check.due("twelve are in flight", w.count(0, 6) * 100 + w.count(0, 0), 1212);
        w.tick(1);
        Check.due("#1 is given up", w.count(0, 7) * 100 + w.packet(0, 0, 0), 102);
        Check.due("and #13 is sent in the same tick", w.count(0, 6) * 100 + w.count(0, 0), 1213);
    }

    static void notGivenUpWhenItsAcknowledgementArrivesInTheSameTick() {
        WorldDeltas w = Worlds.seen(1, 12);
        w.setTimes(10, 1);
        w.tick(1);
        w.lose(0, 50, 0);
        w.tick(10);
        w.setTimes(4, 4);
        w.tick(9);
        Check.due("#1 is in flight for 19 ticks", w.packet(0, 0, 0) * 100 + w.packet(0, 0, 3), 119);
        w.tick(1);
        Check.due("its acknowledgement is there", w.count(0, 4), 1);
        Check.due("the baseline", w.kept(0, 0, 1), 1);
        Check.due("it is not in flight", w.packet(0, 0, 0), 2);
        Check.due("and not given up", w.count(0, 7), 0);
    }

    static void aPacketThatArrivedIsGivenUpToo() {
        WorldDeltas w = Worlds.seen(1, 12);
        w.lose(0, 0, 50);
        w.setTimes(1, 1);
        w.tick(6);
        Check.due("#1 is there", w.copy(0, 0, 6) > 0, true);
        Check.due("and given up", w.count(0, 7), 1);
    }

    static void eachClientGivesUpItsOwn() {
        WorldDeltas w = Worlds.seen(1, 12);
        w.setTimes(1, 1);
        w.lose(0, 50, 0);
        w.tick(3);
        w.connect(2, 10, 10, 31, 12);
        w.lose(2, 50, 0);
        w.tick(3);
        Check.due("#1 of client 0", w.count(0, 7), 1);
        Check.due("none of client 2", w.count(2, 7), 0);
        Check.due("three are in flight for client 2", w.count(2, 6), 3);
        w.tick(3);
        Check.due("#4 of client 0", w.count(0, 7), 4);
        Check.due("#1 of client 2", w.count(2, 7), 1);
    }

    static void aPacketThatIsGivenUpLeavesBaselineAndPriority() {
        WorldDeltas w = Worlds.told(1);
        w.lose(0, 50, 0);
        w.setHealth(0, 6);
        w.setTimes(1, 1);
        w.tick(1);
        w.setHealth(0, 5);
        w.tick(5);
        Check.due("given up", w.count(0, 7), 1);
        Check.due("in flight", w.count(0, 6), 0);
        Check.due("baseline", w.kept(0, 0, 1) * 10 + w.kept(0, 0, 6), 15);
        Check.due("priority", w.kept(0, 0, 0), 0);
    }
}
