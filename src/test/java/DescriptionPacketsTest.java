/** PACKETS in the description, as far as they are made and sent: a test for each sentence that names a boundary. */
final class DescriptionPacketsTest {
    public static void main(String[] args) {
        Check.runAll(DescriptionPacketsTest.class);
    }

    private static void dueEntry(WorldDeltas w, int index, int entry, int... want) {
        for (int what = 0; what < want.length; what++) {
            String name = "entry " + entry + " of packet " + index + ", " + what;
            Check.due(name, w.entry(0, index, entry, what), want[what]);
        }
    }

    // "A packet is sent if the client has fewer than 12 packets in flight .."

    static void withElevenInFlightAPacketIsSent() {
        WorldDeltas w = Worlds.seen(1, 12);
        w.setTimes(10, 1);
        w.tick(11);
        Check.due("in flight", w.count(0, 6), 11);
        w.tick(1);
        Check.due("sent", w.count(0, 0), 12);
    }

    static void withTwelveInFlightNoneIsSent() {
        WorldDeltas w = Worlds.seen(1, 12);
        w.setTimes(10, 1);
        w.tick(12);
        Check.due("in flight", w.count(0, 6), 12);
        w.tick(1);
        Check.due("sent", w.count(0, 0), 12);
        Check.due("entries sent", w.count(0, 8), 12);
        Check.due("bytes sent", w.count(0, 1), 120);
        Check.due("the priority stays", w.kept(0, 0, 0), 32);
        w.tick(1);
        Check.due("and grows", w.kept(0, 0, 0), 64);
    }

    // ".. and some priority is greater than 0."

    static void withoutAnEntityNoPacketIsSent() {
        WorldDeltas w = Worlds.seen(0, 12);
        w.tick(10);
        Check.due("sent", w.count(0, 0), 0);
        Check.due("in flight", w.count(0, 6), 0);
    }

    static void withoutAPriorityNoPacketIsSent() {
        WorldDeltas w = Worlds.told(2);
        w.setTimes(1, 1);
        w.tick(5);
        Check.due("sent", w.count(0, 0), 1);
        Check.due("in flight", w.count(0, 6), 0);
        Check.due("entries sent", w.count(0, 8), 2);
    }

    static void aPriorityOfOneIsEnough() {
        WorldDeltas w = new WorldDeltas();
        w.place(9, 31, 31, 0, 5);
        w.connect(0, 0, 0, 31, 12);
        w.setTimes(1, 1);
        w.tick(1);
        Check.due("sent", w.count(0, 0), 1);
        dueEntry(w, 0, 0, WorldDeltas.CREATION, 9);
    }

    // "It has the next number."

    static void numbersFollowOneAnother() {
        WorldDeltas w = Worlds.seen(1, 12);
        w.setTimes(10, 1);
        for (int n = 1; n <= 5; n++) {
            w.tick(1);
            Check.due("number", w.packet(0, n - 1, 0), n);
        }
    }

    static void lostPacketsUseUpTheirNumbers() {
        WorldDeltas w = Worlds.seen(1, 12);
        w.setTimes(2, 1);
        w.lose(0, 2, 0);
        w.tick(3);
        Check.due("number of the third packet", w.packet(0, 2, 0), 3);
        w.tick(2);
        Check.due("number of the first record", w.copy(0, 0, 5), 3);
    }

    // "The entities with a priority greater than 0 are gone through in descending order of their priorities, equal
    // ones in ascending order of their numbers."

    static void aDifferenceOfOneDecides() {
        WorldDeltas w = new WorldDeltas();
        w.place(0, 12, 10, 0, 5);
        w.place(1, 11, 10, 0, 5);
        w.place(2, 10, 10, 0, 5);
        w.connect(0, 10, 10, 31, 64);
        w.setTimes(2, 1);
        w.tick(1);
        for (int i = 0; i < 3; i++) {
            dueEntry(w, 0, i, WorldDeltas.CREATION, 2 - i);
        }
    }

    static void equalOnesGoByTheirNumbers() {
        WorldDeltas w = new WorldDeltas();
        w.place(15, 10, 10, 0, 5);
        w.place(7, 10, 10, 0, 5);
        w.place(11, 10, 10, 0, 5);
        w.place(0, 10, 10, 0, 5);
        w.place(9, 20, 10, 3, 5);
        w.connect(0, 10, 10, 31, 64);
        w.tick(2);
        int[] order = {9, 0, 7, 11, 15};
        for (int i = 0; i < 5; i++) {
            dueEntry(w, 0, i, WorldDeltas.CREATION, order[i]);
        }
    }

    static void thePriorityCountsNotTheLastIncrease() {
        WorldDeltas w = new WorldDeltas();
        w.setTimes(2, 3);
        w.place(5, 10, 10, 0, 5);
        w.connect(0, 10, 10, 31, 64);
        w.tick(2);
        w.place(3, 10, 10, 1, 5);
        w.tick(1);
        dueEntry(w, 0, 0, WorldDeltas.CREATION, 5);
        dueEntry(w, 0, 1, WorldDeltas.CREATION, 3);
    }

    static void entitiesWithoutPriorityHaveNoEntry() {
        WorldDeltas w = Worlds.told(3);
        w.setHealth(1, 6);
        w.setTimes(1, 1);
        w.tick(1);
        Check.due("entries", w.packet(0, 0, 2), 1);
        dueEntry(w, 0, 0, WorldDeltas.DIFFERENCE, 1);
    }

    static void sixteenEntitiesInAPacket() {
        WorldDeltas w = Worlds.seen(16, 64);
        w.setTimes(1, 1);
        w.tick(6);
        for (int e = 0; e < 16; e++) {
            w.setHealth(e, 6);
        }
        w.tick(1);
        int last = w.count(0, 6) - 1;
        Check.due("entries", w.packet(0, last, 2), 16);
        Check.due("bytes", w.packet(0, last, 1), 4 + 16 * 3);
        for (int e = 0; e < 16; e++) {
            dueEntry(w, last, e, WorldDeltas.DIFFERENCE, e, 3);
        }
    }

    // "- if the entity is not in the area: a removal, of 2 bytes;"

    static void aRemovalOfTwoBytes() {
        WorldDeltas w = Worlds.told(1);
        w.look(0, 16, 10, 5);
        Check.due("price", w.price(0, 0), 2);
        w.setTimes(1, 1);
        w.tick(1);
        Check.due("bytes", w.packet(0, 0, 1), 6);
        dueEntry(w, 0, 0, WorldDeltas.REMOVAL, 0, 2, 0, 0);
    }

    static void aRemovalOfOneThatDoesNotExist() {
        WorldDeltas w = Worlds.told(1);
        w.destroy(0);
        w.setTimes(1, 1);
        w.tick(1);
        dueEntry(w, 0, 0, WorldDeltas.REMOVAL, 0, 2, 0, 0);
    }

    static void atTheRadiusItIsNoRemoval() {
        WorldDeltas w = Worlds.told(1);
        w.place(0, 15, 10, 0, 5);
        w.setTimes(1, 1);
        w.tick(1);
        dueEntry(w, 0, 0, WorldDeltas.DIFFERENCE, 0, 3, 1, 1);
    }

    // "- if it is in the area, and the baseline has no state: a creation, of 6 bytes, with the state;"

    static void aCreationOfSixBytes() {
        WorldDeltas w = Worlds.seen(0, 64);
        w.place(4, 0, 0, 0, 0);
        w.setTimes(1, 1);
        w.tick(1);
        Check.due("bytes", w.packet(0, 0, 1), 10);
        dueEntry(w, 0, 0, WorldDeltas.CREATION, 4, 6, 0, 15);
        w.tick(1);
        Check.due("copy", w.copy(0, 4, 0), 1);
    }

    static void aCreationAfterARemoval() {
        WorldDeltas w = Worlds.told(1);
        w.destroy(0);
        w.setTimes(1, 1);
        w.tick(1);
        w.setTimes(1, 10);
        w.tick(2);
        w.place(0, 10, 10, 0, 6);
        w.setTimes(1, 1);
        w.tick(1);
        dueEntry(w, 0, 0, WorldDeltas.CREATION, 0, 6, 0, 15);
    }

    static void aCreationUntilOneIsAcknowledged() {
        WorldDeltas w = Worlds.seen(1, 64);
        w.tick(4);
        dueEntry(w, 0, 0, WorldDeltas.CREATION, 0, 6, 0, 15);
        dueEntry(w, 1, 0, WorldDeltas.CREATION, 0, 6, 0, 15);
    }

    // "- otherwise a difference, of 2 bytes and 1 more for each of x, y, kind and health that differs from the
    // baseline, with the number of the baseline and these values."

    static void aDifferenceForEachSetOfValues() {
        for (int mask = 1; mask <= 15; mask++) {
            WorldDeltas w = Worlds.told(1);
            w.place(0, 10 + (mask & 1), 10 + (mask >> 1 & 1), mask >> 2 & 1, 5 + (mask >> 3 & 1));
            int bytes = 2 + Integer.bitCount(mask);
            Check.due("price with " + mask, w.price(0, 0), bytes);
            w.setTimes(1, 1);
            w.tick(1);
            dueEntry(w, 0, 0, WorldDeltas.DIFFERENCE, 0, bytes, 1, mask);
            Check.due("bytes with " + mask, w.packet(0, 0, 1), 4 + bytes);
            w.tick(1);
            for (int what = 0; what <= 4; what++) {
                Check.due("copy " + what + " with " + mask, w.copy(0, 0, what), w.entity(0, what));
            }
        }
    }

    static void aDifferenceHasTheNumberOfTheBaseline() {
        WorldDeltas w = Worlds.told(2);
        w.setHealth(0, 6);
        w.setTimes(1, 1);
        w.tick(1);
        w.setTimes(1, 10);
        w.tick(2);
        w.setHealth(0, 7);
        w.setHealth(1, 7);
        w.setTimes(1, 1);
        w.tick(1);
        dueEntry(w, 0, 0, WorldDeltas.DIFFERENCE, 0, 3, 2, 8);
        dueEntry(w, 0, 1, WorldDeltas.DIFFERENCE, 1, 3, 1, 8);
    }

    // "The entry is put into the packet if its bytes, together with 4 bytes for the packet and those of the entries
    // in it, are not more than the budget; .."

    /** Creations that fit into a packet of this budget, with 16 entities to tell. */
    private static void dueCreations(int budget, int want) {
        WorldDeltas w = Worlds.seen(16, budget);
        w.tick(2);
        Check.due("entries with a budget of " + budget, w.packet(0, 0, 2), want);
        Check.due("bytes with a budget of " + budget, w.packet(0, 0, 1), 4 + 6 * want);
    }

    static void bytesEqualToTheBudgetFit() {
        dueCreations(64, 10);
        dueCreations(58, 9);
        dueCreations(16, 2);
    }

    static void oneByteMoreThanTheBudgetDoesNotFit() {
        dueCreations(63, 9);
        dueCreations(57, 8);
        dueCreations(15, 1);
    }

    static void theLeastBudgetFitsTheDearestEntry() {
        dueCreations(12, 1);
        dueCreations(13, 1);
    }

    static void removalsFillTheLeastBudgetExactly() {
        WorldDeltas w = Worlds.seen(5, 12);
        w.setTimes(1, 1);
        w.tick(20);
        for (int e = 0; e < 5; e++) {
            Check.due("acknowledged " + e, w.kept(0, e, 2), 1);
            w.destroy(e);
        }
        w.tick(1);
        int last = w.count(0, 6) - 1;
        Check.due("entries", w.packet(0, last, 2), 4);
        Check.due("bytes", w.packet(0, last, 1), 12);
        for (int e = 0; e < 4; e++) {
            dueEntry(w, last, e, WorldDeltas.REMOVAL, e, 2);
            Check.due("priority of " + e, w.kept(0, e, 0), 0);
        }
        Check.due("priority of the one that is left out", w.kept(0, 4, 0), 100);
    }

    // ".. then the priority of the entity becomes 0. Otherwise the entity is left out (later ones may fit)."

    static void priorityBecomesZeroInThePacketAlone() {
        WorldDeltas w = Worlds.seen(3, 16);
        w.tick(2);
        Check.due("priority of 0", w.kept(0, 0, 0), 0);
        Check.due("priority of 1", w.kept(0, 1, 0), 0);
        Check.due("priority of 2", w.kept(0, 2, 0), 64);
        w.tick(2);
        dueEntry(w, 1, 0, WorldDeltas.CREATION, 2);
    }

    static void aLostPacketSetsPrioritiesToZeroToo() {
        WorldDeltas w = Worlds.seen(1, 16);
        w.lose(0, 1, 0);
        w.tick(2);
        Check.due("priority", w.kept(0, 0, 0), 0);
    }

    /** Entity 0 is told; entities 1 and 2 are new and dearer; entity 3 is new too, and comes last. */
    private static WorldDeltas smallOneBehind(int budget) {
        WorldDeltas w = new WorldDeltas();
        w.place(0, 10, 10, 0, 5);
        w.connect(0, 10, 10, 31, budget);
        w.setTimes(1, 1);
        w.tick(1);
        w.setTimes(1, 10);
        w.tick(3);
        w.setHealth(0, 6);
        w.place(1, 10, 10, 3, 5);
        w.place(2, 10, 10, 2, 5);
        w.place(3, 10, 13, 0, 5);
        w.setTimes(1, 1);
        w.tick(1);
        return w;
    }

    static void aLaterOneFits() {
        WorldDeltas w = smallOneBehind(13);
        Check.due("entries", w.packet(0, 0, 2), 2);
        dueEntry(w, 0, 0, WorldDeltas.CREATION, 1, 6);
        dueEntry(w, 0, 1, WorldDeltas.DIFFERENCE, 0, 3);
        Check.due("priority of the one that is left out", w.kept(0, 2, 0), 128);
        Check.due("priority of the later one", w.kept(0, 0, 0), 0);
        Check.due("priority of the last one", w.kept(0, 3, 0), 29);
    }

    static void aLaterOneThatDoesNotFitIsLeftOutToo() {
        WorldDeltas w = smallOneBehind(12);
        Check.due("entries", w.packet(0, 0, 2), 1);
        Check.due("priority of the later one", w.kept(0, 0, 0), 32);
    }

    static void allFitIntoAPacketOfTheirSum() {
        WorldDeltas w = smallOneBehind(25);
        Check.due("entries", w.packet(0, 0, 2), 4);
        Check.due("bytes", w.packet(0, 0, 1), 25);
    }

    // "If no entry was put in, no packet is sent, and no number is used up." The least budget of 12 fits every first
    // entry (4 + 6 bytes); what is left of the sentence is that ticks without a packet use up no number.

    static void ticksWithoutAPacketUseUpNoNumber() {
        WorldDeltas w = Worlds.told(1);
        w.setTimes(1, 1);
        w.tick(7);
        Check.due("sent", w.count(0, 0), 1);
        w.setHealth(0, 6);
        w.tick(1);
        Check.due("number", w.packet(0, 0, 0), 2);
    }

    static void ticksWithTwelveInFlightUseUpNoNumber() {
        WorldDeltas w = Worlds.seen(1, 12);
        w.setTimes(10, 1);
        w.tick(20);
        Check.due("sent", w.count(0, 0), 12);
        w.setHealth(0, 6);
        w.tick(1);
        Check.due("number of the next one", w.packet(0, 11, 0), 13);
    }

    // "The packet, with its entries, is in flight from then on."

    static void aPacketIsInFlightAtOnce() {
        WorldDeltas w = Worlds.seen(1, 12);
        w.setTimes(1, 1);
        w.tick(1);
        Check.due("in flight", w.count(0, 6), 1);
        Check.due("ticks since it was sent", w.packet(0, 0, 3), 0);
    }

    static void aPacketStaysInFlightWhenItHasArrived() {
        WorldDeltas w = Worlds.seen(1, 12);
        w.setTimes(3, 10);
        w.tick(13);
        Check.due("it has arrived", w.copy(0, 0, 6), 1);
        Check.due("in flight", w.count(0, 6), 1);
        w.tick(2);
        Check.due("in flight", w.count(0, 6), 1);
        w.tick(1);
        Check.due("in flight no more with its acknowledgement", w.count(0, 6), 0);
    }

    static void aLostPacketIsInFlightToo() {
        WorldDeltas w = Worlds.seen(1, 12);
        w.lose(0, 1, 0);
        w.tick(2);
        Check.due("in flight", w.count(0, 6), 1);
        dueEntry(w, 0, 0, WorldDeltas.CREATION, 0, 6, 0, 15);
    }

    static void theEntriesStayAsTheyWereSent() {
        WorldDeltas w = Worlds.told(1);
        w.setHealth(0, 6);
        w.setTimes(2, 1);
        w.tick(1);
        w.lose(0, 50, 0);
        w.place(0, 12, 13, 2, 7);
        dueEntry(w, 0, 0, WorldDeltas.DIFFERENCE, 0, 3, 1, 8);
        w.destroy(0);
        dueEntry(w, 0, 0, WorldDeltas.DIFFERENCE, 0, 3, 1, 8);
        w.tick(2);
        int[] sent = {1, 10, 10, 0, 6};
        for (int what = 0; what <= 4; what++) {
            Check.due("copy " + what, w.copy(0, 0, what), sent[what]);
        }
    }
}
