/** TICKS and PRIORITIES in the description: a test for each sentence that names a boundary, in their order. */
final class DescriptionTicksTest {
    public static void main(String[] args) {
        Check.runAll(DescriptionTicksTest.class);
    }

    // "There are a time (0 at first), a delay (1 to 10, 2 at first) and an interval (1 to 10, 2 at first)."

    static void theTimeAtFirst() {
        Check.due("time", new WorldDeltas().time(), 0);
    }

    static void theDelayAtFirst() {
        WorldDeltas w = Worlds.seen(1, 12);
        w.tick(3);
        Check.due("after 1 tick the packet is not there", w.copy(0, 0, 6), 0);
        w.tick(1);
        Check.due("after 2 ticks it is", w.copy(0, 0, 6), 1);
        Check.due("previous delay", w.setTimes(5, 5), 2);
    }

    static void theIntervalAtFirst() {
        WorldDeltas w = Worlds.seen(1, 12);
        int[] sent = {0, 1, 1, 2, 2};
        for (int i = 0; i < sent.length; i++) {
            w.tick(1);
            Check.due("packets sent at " + w.time(), w.count(0, 0), sent[i]);
        }
    }

    static void theLeastDelay() {
        WorldDeltas w = Worlds.seen(1, 12);
        w.setTimes(1, 10);
        w.tick(10);
        Check.due("not in the tick in which it is sent", w.copy(0, 0, 6), 0);
        w.tick(1);
        Check.due("the packet is there", w.copy(0, 0, 6), 1);
        Check.due("its acknowledgement is not", w.count(0, 4), 0);
        w.tick(1);
        Check.due("its acknowledgement is there", w.count(0, 4), 1);
    }

    static void theGreatestDelay() {
        WorldDeltas w = Worlds.seen(1, 12);
        w.setTimes(10, 1);
        w.tick(10);
        Check.due("after 9 ticks the packet is not there", w.copy(0, 0, 6), 0);
        w.tick(1);
        Check.due("after 10 ticks it is", w.copy(0, 0, 6), 1);
        w.tick(9);
        Check.due("after 9 ticks its acknowledgement is not there", w.count(0, 4), 0);
        w.tick(1);
        Check.due("after 10 ticks it is", w.count(0, 4), 1);
    }

    static void theLeastInterval() {
        WorldDeltas w = Worlds.seen(1, 12);
        w.setTimes(10, 1);
        for (int i = 1; i <= 5; i++) {
            w.tick(1);
            Check.due("packets sent at " + i, w.count(0, 0), i);
        }
    }

    static void theGreatestInterval() {
        WorldDeltas w = Worlds.seen(1, 12);
        w.setTimes(10, 10);
        w.tick(9);
        Check.due("packets sent at 9", w.count(0, 0), 0);
        w.tick(1);
        Check.due("packets sent at 10", w.count(0, 0), 1);
        w.tick(9);
        Check.due("packets sent at 19", w.count(0, 0), 1);
        w.tick(1);
        Check.due("packets sent at 20", w.count(0, 0), 2);
    }

    // "(1) The time increases by 1. All entities that exist move, in both directions."

    static void theTimeIncreasesByOne() {
        WorldDeltas w = new WorldDeltas();
        for (int i = 1; i <= 4; i++) {
            Check.due("tick", w.tick(1), i);
            Check.due("time", w.time(), i);
        }
    }

    static void allEntitiesMove() {
        WorldDeltas w = new WorldDeltas();
        for (int e = 0; e < 16; e++) {
            w.place(e, e, 15, 0, 0);
            w.setVelocity(e, 1, -2);
        }
        w.tick(1);
        for (int e = 0; e < 16; e++) {
            Check.due("x of " + e, w.entity(e, 1), e + 1);
            Check.due("y of " + e, w.entity(e, 2), 13);
        }
    }

    static void entitiesThatDoNotExistDoNotMove() {
        WorldDeltas w = new WorldDeltas();
        w.place(0, 5, 5, 0, 0);
        w.setVelocity(0, 2, 2);
        w.destroy(0);
        w.tick(1);
        Check.due("x", w.entity(0, 1), 0);
        Check.due("it does not exist", w.entity(0, 0), 0);
        w.place(0, 7, 7, 0, 0);
        Check.due("x", w.entity(0, 1), 7);
    }

    static void theMoveIsBeforeThePacket() {
        WorldDeltas w = Worlds.seen(1, 12);
        w.setTimes(1, 2);
        w.setVelocity(0, 3, 0);
        w.tick(3);
        Check.due("x as it was sent at the time 2", w.copy(0, 0, 1), 16);
        Check.due("x now", w.entity(0, 1), 19);
    }

    static void theMoveIsBeforeThePriorities() {
        WorldDeltas w = Worlds.seen(1, 12);
        w.look(0, 20, 10, 7);
        w.setVelocity(0, 3, 0);
        w.tick(1);
        Check.due("13 is in the area, with a distance of 7", w.kept(0, 0, 0), 25);
    }

    // "(2) For the clients in ascending order: the packets for the client that arrive at this time are received, in
    // the order in which they were sent; .."

    static void packetsOfOneTimeAreReceivedInTheirOrder() {
        WorldDeltas w = Worlds.seen(1, 12);
        w.setTimes(3, 1);
        w.tick(1);
        w.setTimes(2, 1);
        w.tick(1);
        w.lose(0, 50, 1);
        w.tick(1);
        Check.due("nothing at 3", w.copy(0, 0, 6), 0);
        w.tick(1);
        Check.due("both at 4, the first one first", w.copy(0, 0, 6), 2);
        Check.due("the last record", w.copy(0, 0, 5), 2);
        w.tick(2);
        Check.due("the acknowledgement of #1 was the one that was lost", w.kept(0, 0, 1), 2);
    }

    // ".. then the acknowledgements from the client that arrive at this time are received by the server, in the
    // order in which they were sent."

    static void acknowledgementsOfOneTimeAreReceivedInTheirOrder() {
        WorldDeltas w = Worlds.seen(2, 64);
        w.setTimes(2, 1);
        w.tick(1);
        w.destroy(0);
        w.tick(1);
        Check.due("#1 has both entities", w.packet(0, 0, 2), 2);
        Check.due("#2 has one", w.packet(0, 1, 2), 1);
        w.setTimes(4, 10);
        w.tick(1);
        w.setTimes(3, 10);
        w.tick(3);
        Check.due("no acknowledgement at 6", w.count(0, 4), 0);
        w.tick(1);
        Check.due("both at 7", w.count(0, 4), 2);
        Check.due("that of #1 was not too late", w.kept(0, 0, 1), 1);
        Check.due("that of #2 was after it", w.kept(0, 1, 1), 2);
    }

    static void acknowledgementsThatWereSentFirstAreReceivedFirst() {
        WorldDeltas w = Worlds.seen(2, 64);
        w.setTimes(3, 1);
        w.tick(1);
        w.destroy(0);
        w.setTimes(1, 1);
        w.tick(1);
        w.setTimes(3, 10);
        w.tick(1);
        Check.due("#2 is there before #1", w.copy(0, 1, 5) * 10 + w.copy(0, 0, 5), 20);
        w.setTimes(2, 10);
        w.tick(2);
        Check.due("#1 is there", w.copy(0, 0, 5), 1);
        Check.due("no acknowledgement at 5", w.count(0, 4), 0);
        w.tick(1);
        Check.due("both at 6", w.count(0, 4), 2);
        Check.due("that of #2 cleared #1", w.kept(0, 0, 1), 0);
        Check.due("the baseline of the other one", w.kept(0, 1, 1), 2);
    }

    // "(3) For the connected clients in ascending order: priorities are increased, and if the time is a multiple of
    // the interval, a packet may be sent, as described below."

    static void acknowledgementsAreReceivedBeforePrioritiesAreIncreased() {
        WorldDeltas w = Worlds.seen(1, 12);
        w.tick(5);
        Check.due("priority", w.kept(0, 0, 0), 32);
        Check.due("packets", w.count(0, 0), 2);
        w.tick(1);
        Check.due("the acknowledgement of #1 is there", w.kept(0, 0, 1), 1);
        Check.due("and the priority is 0 at once", w.kept(0, 0, 0), 0);
        Check.due("so that no packet is sent", w.count(0, 0), 2);
    }

    static void acknowledgementsMakeRoomInTheSameTick() {
        WorldDeltas w = Worlds.seen(2, 12);
        w.setTimes(10, 1);
        w.tick(20);
        Check.due("twelve are in flight", w.count(0, 6) * 100 + w.count(0, 0), 1212);
        w.tick(1);
        Check.due("#1 is acknowledged", w.packet(0, 0, 0), 2);
        Check.due("and #13 is sent", w.count(0, 6) * 100 + w.count(0, 0), 1213);
    }

    static void prioritiesAreIncreasedBeforeThePacket() {
        WorldDeltas w = Worlds.seen(1, 12);
        w.setTimes(2, 1);
        w.tick(1);
        Check.due("the first tick sends at once", w.count(0, 0), 1);
        Check.due("priority", w.kept(0, 0, 0), 0);
    }

    static void prioritiesAreIncreasedInEveryTick() {
        WorldDeltas w = Worlds.seen(1, 12);
        w.setTimes(2, 10);
        for (int i = 1; i <= 9; i++) {
            w.tick(1);
            Check.due("priority at " + i, w.kept(0, 0, 0), 32 * i);
        }
    }

    static void prioritiesChangeInTicksAlone() {
        WorldDeltas w = Worlds.told(1);
        w.setHealth(0, 6);
        w.place(1, 10, 10, 3, 5);
        w.tick(1);
        w.setHealth(0, 5);
        w.place(1, 0, 0, 0, 0);
        w.destroy(1);
        w.look(0, 31, 31, 1);
        w.setTimes(1, 1);
        w.lose(0, 1, 1);
        Check.due("priority of 0", w.kept(0, 0, 0), 32);
        Check.due("priority of 1", w.kept(0, 1, 0), 256);
        w.destroy(0);
        Check.due("priority of 0", w.kept(0, 0, 0), 32);
    }

    static void aPacketAtMultiplesOfTheIntervalAlone() {
        WorldDeltas w = Worlds.seen(1, 12);
        w.setTimes(10, 3);
        int[] sent = {0, 0, 1, 1, 1, 2, 2};
        for (int i = 0; i < sent.length; i++) {
            w.tick(1);
            Check.due("packets sent at " + w.time(), w.count(0, 0), sent[i]);
        }
    }

    static void multiplesOfTheTimeNotTicksSinceTheLastPacket() {
        WorldDeltas w = Worlds.seen(1, 12);
        w.setTimes(10, 1);
        w.tick(3);
        w.setTimes(10, 4);
        w.tick(1);
        Check.due("packets sent at 4", w.count(0, 0), 4);
        w.setTimes(10, 7);
        w.tick(2);
        Check.due("packets sent at 6", w.count(0, 0), 4);
        w.tick(1);
        Check.due("packets sent at 7", w.count(0, 0), 5);
    }

    static void clientsThatAreNotConnectedAreSentNothing() {
        WorldDeltas w = Worlds.seen(1, 12);
        w.connect(2, 10, 10, 31, 12);
        w.disconnect(0);
        w.tick(6);
        for (int what = 0; what <= 8; what++) {
            Check.due("count of the disconnected one, " + what, w.count(0, what), 0);
            Check.due("count of the one that never was connected, " + what, w.count(1, what), 0);
        }
        Check.due("the third one is served", w.count(2, 0), 2);
        w.connect(0, 10, 10, 31, 12);
        Check.due("no priority has grown", w.kept(0, 0, 0), 0);
    }

    // PRIORITIES

    // "For each entity: if it is in the area of the client, and its state is not equal to that of the baseline (or
    // this has no state), its priority increases by (weight of its kind) * (32 - distance)."

    static void theLeastAndTheGreatestIncrease() {
        WorldDeltas w = new WorldDeltas();
        w.setTimes(2, 10);
        w.place(0, 31, 0, 0, 5);
        w.place(1, 0, 0, 3, 5);
        w.connect(0, 0, 0, 31, 12);
        w.tick(1);
        Check.due("1 * (32 - 31)", w.kept(0, 0, 0), 1);
        Check.due("8 * (32 - 0)", w.kept(0, 1, 0), 256);
        w.tick(2);
        Check.due("three times the least", w.kept(0, 0, 0), 3);
        Check.due("three times the greatest", w.kept(0, 1, 0), 768);
    }

    private static int intervalThatIsNotDue(int time) {
        int interval = 9;
        while (time % interval == 0) {
            interval--;
        }
        return interval;
    }

    static void prioritiesGrowFar() {
        WorldDeltas w = Worlds.told(1);
        w.place(1, 10, 10, 3, 5);
        w.look(0, 10, 10, 1);
        w.place(0, 20, 20, 0, 5);
        int start = w.time();
        for (int i = 0; i < 70; i++) {
            w.tick(9 - w.time() % 10);
            w.setTimes(1, intervalThatIsNotDue(w.time() + 1));
            w.tick(1);
            w.setTimes(1, 10);
        }
        int ticks = w.time() - start;
        Check.due("no packet was sent", w.count(0, 0), 1);
        Check.due("ticks", ticks > 660, true);
        Check.due("priority inside", w.kept(0, 1, 0), 256 * ticks);
        Check.due("priority outside", w.kept(0, 0, 0), 100 * ticks);
    }

    static void theRadiusItselfStillIncreases() {
        WorldDeltas w = new WorldDeltas();
        w.setTimes(2, 10);
        w.place(0, 10, 15, 1, 5);
        w.place(1, 10, 16, 1, 5);
        w.connect(0, 10, 10, 5, 12);
        w.tick(1);
        Check.due("in the area", w.kept(0, 0, 0), 2 * 27);
        Check.due("just outside", w.kept(0, 1, 0), 0);
    }

    /** Entity 0 of told() gets this state; its priority after a tick must be so much. */
    private static void dueIncrease(int x, int y, int kind, int health, int want) {
        WorldDeltas w = Worlds.told(1);
        w.place(0, x, y, kind, health);
        w.tick(1);
        String state = "(" + x + ", " + y + ", " + kind + ", " + health + ")";
        Check.due("priority with " + state, w.kept(0, 0, 0), want);
        w.tick(1);
        Check.due("priority a tick later with " + state, w.kept(0, 0, 0), 2 * want);
    }

    static void eachValueAloneMakesAStateUnequal() {
        dueIncrease(10, 10, 0, 5, 0);
        dueIncrease(11, 10, 0, 5, 31);
        dueIncrease(10, 8, 0, 5, 30);
        dueIncrease(10, 10, 1, 5, 64);
        dueIncrease(10, 10, 0, 6, 32);
        dueIncrease(10, 10, 0, 0, 32);
    }

    static void theWeightIsThatOfThePresentKind() {
        dueIncrease(10, 10, 2, 5, 128);
        dueIncrease(13, 10, 3, 5, 8 * 29);
    }

    static void aBaselineWithoutStateAfterARemoval() {
        WorldDeltas w = Worlds.told(1);
        w.destroy(0);
        w.setTimes(1, 1);
        w.tick(1);
        w.setTimes(1, 10);
        w.tick(2);
        Check.due("the removal is acknowledged", w.kept(0, 0, 1) * 10 + w.kept(0, 0, 2), 20);
        w.place(0, 10, 10, 0, 5);
        w.tick(1);
        Check.due("priority", w.kept(0, 0, 0), 32);
    }

    // "If it is in the area, and its state is equal to that of the baseline, its priority becomes 0."

    static void equalToTheBaselineAgain() {
        WorldDeltas w = Worlds.told(1);
        w.setHealth(0, 6);
        w.tick(2);
        Check.due("priority", w.kept(0, 0, 0), 64);
        w.setHealth(0, 5);
        Check.due("priority before the tick", w.kept(0, 0, 0), 64);
        w.tick(1);
        Check.due("priority after it", w.kept(0, 0, 0), 0);
    }

    static void equalAndInTheAreaAgain() {
        WorldDeltas w = Worlds.told(1);
        w.look(0, 16, 10, 5);
        w.tick(1);
        Check.due("priority outside", w.kept(0, 0, 0), 100);
        w.look(0, 15, 10, 5);
        w.tick(1);
        Check.due("priority inside", w.kept(0, 0, 0), 0);
    }

    // "If it is not in the area, and the baseline has a state, its priority increases by 100."

    static void outsideTheAreaItIncreasesByAHundred() {
        WorldDeltas w = Worlds.told(1);
        w.look(0, 10, 16, 5);
        w.tick(1);
        Check.due("priority", w.kept(0, 0, 0), 100);
        w.tick(1);
        Check.due("priority", w.kept(0, 0, 0), 200);
    }

    static void outsideTheAreaTheKindAndTheDistanceDoNotCount() {
        WorldDeltas w = Worlds.told(1);
        w.place(0, 31, 31, 3, 5);
        w.tick(1);
        Check.due("priority", w.kept(0, 0, 0), 100);
    }

    static void anEntityThatDoesNotExistAnyMoreIsOutside() {
        WorldDeltas w = Worlds.told(1);
        w.destroy(0);
        w.tick(1);
        Check.due("priority", w.kept(0, 0, 0), 100);
    }

    static void aHundredIsAddedToWhatThereIs() {
        WorldDeltas w = Worlds.told(1);
        w.setHealth(0, 6);
        w.tick(1);
        w.look(0, 30, 30, 5);
        w.tick(1);
        Check.due("priority", w.kept(0, 0, 0), 132);
        w.look(0, 10, 10, 5);
        w.tick(1);
        Check.due("and the other way round", w.kept(0, 0, 0), 164);
    }

    // "Otherwise its priority becomes 0."

    static void outsideTheAreaAndNeverTold() {
        WorldDeltas w = Worlds.told(1);
        w.place(1, 15, 10, 3, 5);
        w.tick(1);
        Check.due("priority inside", w.kept(0, 1, 0), 8 * 27);
        w.place(1, 16, 10, 3, 5);
        w.tick(1);
        Check.due("priority outside", w.kept(0, 1, 0), 0);
    }

    static void destroyedAndNeverTold() {
        WorldDeltas w = Worlds.told(1);
        w.place(1, 15, 10, 3, 5);
        w.tick(1);
        w.destroy(1);
        w.tick(1);
        Check.due("priority", w.kept(0, 1, 0), 0);
        Check.due("priority of one that never existed", w.kept(0, 2, 0), 0);
    }

    static void outsideTheAreaAfterARemoval() {
        WorldDeltas w = Worlds.told(1);
        w.look(0, 30, 30, 5);
        w.setTimes(1, 1);
        w.tick(1);
        w.setTimes(1, 10);
        w.tick(1);
        Check.due("priority before the removal is acknowledged", w.kept(0, 0, 0), 100);
        w.tick(1);
        Check.due("the baseline has no state any more", w.kept(0, 0, 1) * 10 + w.kept(0, 0, 2), 20);
        Check.due("priority", w.kept(0, 0, 0), 0);
        w.tick(1);
        Check.due("priority", w.kept(0, 0, 0), 0);
    }
}
