/** Promises 7 to 11, from connect() to lose(): a test for each sentence that names a boundary, in their order. */
final class Promises7To11Test {
    public static void main(String[] args) {
        Check.runAll(Promises7To11Test.class);
    }

    // Promise 7, connect: "Connects a client: everything that client and server keep for it begins anew, its counts
    // and what lose() told, too; packets and acknowledgements on their way are gone."

    /** Client 0 has each count, losses to come, priorities, baselines, records and packets in flight. */
    private static WorldDeltas full() {
        WorldDeltas w = Worlds.seen(3, 12);
        w.setTimes(2, 1);
        w.lose(0, 1, 1);
        w.tick(12);
        for (int e = 0; e < 3; e++) {
            w.setVelocity(e, 1, e);
        }
        w.lose(0, 0, 30);
        w.tick(25);
        w.lose(0, 20, 30);
        w.tick(2);
        for (int what = 0; what <= 8; what++) {
            Check.due("full, count " + what + " is above 0", w.count(0, what) > 0, true);
        }
        int priorities = w.kept(0, 0, 0) + w.kept(0, 1, 0) + w.kept(0, 2, 0);
        Check.due("full, there are priorities", priorities > 0, true);
        Check.due("full, there is a baseline", w.kept(0, 0, 1) * 10 + w.kept(0, 0, 2) > 10, true);
        Check.due("full, there are twelve records", w.copy(0, 0, 6), 12);
        return w;
    }

    /** The client must be as one that is connected for the first time, in a world of the same entities. */
    private static void dueAnew(String call, WorldDeltas w) {
        for (int what = 0; what <= 8; what++) {
            Check.due(call + ", count " + what, w.count(0, what), 0);
        }
        for (int e = 0; e < 16; e++) {
            for (int what = 0; what <= 6; what++) {
                Check.due(call + ", copy " + e + " " + what, w.copy(0, e, what), 0);
                Check.due(call + ", kept " + e + " " + what, w.kept(0, e, what), 0);
            }
        }
        Check.dueThrow(call + ", no packet is in flight", Check.ARGUMENT, () -> w.packet(0, 0, 0));
    }

    static void connectBeginsCountsAnew() {
        WorldDeltas w = full();
        Check.due("connect", w.connect(0, 10, 10, 31, 16), true);
        for (int what = 0; what <= 8; what++) {
            Check.due("count " + what, w.count(0, what), 0);
        }
    }

    static void connectBeginsPrioritiesAndBaselinesAnew() {
        WorldDeltas w = full();
        w.connect(0, 10, 10, 31, 16);
        for (int e = 0; e < 16; e++) {
            for (int what = 0; what <= 6; what++) {
                Check.due("kept " + e + " " + what, w.kept(0, e, what), 0);
            }
        }
    }

    static void connectBeginsRecordsAnew() {
        WorldDeltas w = full();
        w.connect(0, 10, 10, 31, 16);
        for (int e = 0; e < 16; e++) {
            for (int what = 0; what <= 6; what++) {
                Check.due("copy " + e + " " + what, w.copy(0, e, what), 0);
            }
        }
    }

    static void connectBeginsPacketsInFlightAndNumbersAnew() {
        WorldDeltas w = full();
        w.connect(0, 10, 10, 31, 16);
        Check.dueThrow("no packet is in flight", w, Check.ARGUMENT, () -> w.packet(0, 0, 0));
        w.tick(1);
        Check.due("number", w.packet(0, 0, 0), 1);
        Check.due("in flight", w.count(0, 6), 1);
    }

    static void connectBeginsWhatLoseToldAnew() {
        WorldDeltas w = full();
        Check.due("packets were to be lost", w.lose(0, 20, 30), 18);
        w.connect(0, 10, 10, 31, 16);
        w.tick(8);
        Check.due("packets lost", w.count(0, 2), 0);
        Check.due("acknowledgements lost", w.count(0, 3), 0);
        Check.due("lose", w.lose(0, 0, 0), 0);
    }

    static void connectEndsPacketsOnTheirWay() {
        WorldDeltas w = Worlds.seen(1, 12);
        w.setTimes(5, 1);
        w.tick(3);
        w.connect(0, 31, 31, 1, 12);
        w.tick(10);
        Check.due("no record", w.copy(0, 0, 6), 0);
        Check.due("no acknowledgement", w.count(0, 4), 0);
    }

    static void connectEndsAcknowledgementsOnTheirWay() {
        WorldDeltas w = Worlds.seen(1, 12);
        w.setTimes(5, 1);
        w.tick(9);
        Check.due("packets have arrived", w.copy(0, 0, 6), 4);
        Check.due("no acknowledgement has", w.count(0, 4), 0);
        w.connect(0, 10, 10, 31, 12);
        w.tick(5);
        Check.due("none arrives", w.count(0, 4), 0);
        Check.due("no new packet is taken for an old one", w.count(0, 6), 5);
        Check.due("no baseline", w.kept(0, 0, 2), 0);
    }

    static void connectSetsCenterRadiusAndBudgetAnew() {
        WorldDeltas w = full();
        w.place(9, 3, 4, 0, 1);
        w.connect(0, 1, 2, 2, 64);
        Check.due("distance", w.kept(0, 9, 8), 2);
        Check.due("in the area", w.kept(0, 9, 7), 1);
        w.connect(0, 0, 1, 2, 64);
        Check.due("distance", w.kept(0, 9, 8), 3);
        Check.due("in the area", w.kept(0, 9, 7), 0);
        WorldDeltas v = Worlds.seen(16, 12);
        v.connect(0, 10, 10, 31, 64);
        v.tick(2);
        Check.due("bytes", v.packet(0, 0, 1), 64);
    }

    static void connectChangesNothingElse() {
        WorldDeltas w = Worlds.busy();
        WorldDeltas twin = Worlds.busy();
        w.connect(0, 1, 1, 1, 12);
        w.tick(5);
        twin.tick(5);
        Check.due("time", w.time(), twin.time());
        for (int what = 0; what <= 8; what++) {
            Check.due("count of client 2, " + what, w.count(2, what), twin.count(2, what));
        }
        for (int e = 0; e < 16; e++) {
            Check.due("x", w.entity(e, 1), twin.entity(e, 1));
            Check.due("copy of client 2", w.copy(2, e, 5), twin.copy(2, e, 5));
            Check.due("baseline for client 2", w.kept(2, e, 1), twin.kept(2, e, 1));
        }
    }

    static void connectTakesLeastAndGreatest() {
        int[][] all = {{0, 9, 9, 9, 20}, {2, 9, 9, 9, 20}, {1, 0, 9, 9, 20}, {1, 31, 9, 9, 20}, {1, 9, 0, 9, 20},
            {1, 9, 31, 9, 20}, {1, 9, 9, 1, 20}, {1, 9, 9, 31, 20}, {1, 9, 9, 9, 12}, {1, 9, 9, 9, 64}};
        for (int[] a : all) {
            WorldDeltas w = new WorldDeltas();
            w.place(0, 10, 11, 0, 0);
            Check.due("connect", w.connect(a[0], a[1], a[2], a[3], a[4]), false);
            int distance = Math.max(Math.abs(10 - a[1]), Math.abs(11 - a[2]));
            Check.due("distance", w.kept(a[0], 0, 8), distance);
            Check.due("in the area", w.kept(a[0], 0, 7), distance <= a[3] ? 1 : 0);
        }
    }

    // "Returns true if it was connected before."

    static void connectReturnsWhetherItWasConnected() {
        WorldDeltas w = new WorldDeltas();
        Check.due("connect 1", w.connect(1, 9, 9, 9, 20), false);
        Check.due("connect 1 again", w.connect(1, 9, 9, 9, 20), true);
        Check.due("connect 2", w.connect(2, 9, 9, 9, 20), false);
        w.disconnect(1);
        Check.due("connect 1 after disconnect", w.connect(1, 9, 9, 9, 20), false);
    }

    static void connectRefusesNumbersOfNoClient() {
        for (int c : Check.beyond(0, 2)) {
            Check.refused("connect " + c, Check.INDEX, w -> w.connect(c, 1, 1, 1, 12));
        }
    }

    static void connectRefusesX() {
        for (int x : Check.beyond(0, 31)) {
            Check.refused("connect x " + x, Check.ARGUMENT, w -> w.connect(0, x, 1, 1, 12));
        }
    }

    static void connectRefusesY() {
        for (int y : Check.beyond(0, 31)) {
            Check.refused("connect y " + y, Check.ARGUMENT, w -> w.connect(1, 1, y, 1, 12));
        }
    }

    static void connectRefusesRadius() {
        for (int radius : Check.beyond(1, 31)) {
            Check.refused("connect radius " + radius, Check.ARGUMENT, w -> w.connect(0, 1, 1, radius, 12));
        }
    }

    static void connectRefusesBudget() {
        for (int budget : Check.beyond(12, 64)) {
            Check.refused("connect budget " + budget, Check.ARGUMENT, w -> w.connect(1, 1, 1, 1, budget));
        }
    }

    static void connectThrowsForTheClientFirst() {
        Check.refused("client and x", Check.INDEX, w -> w.connect(3, 32, 1, 1, 12));
        Check.refused("client and y", Check.INDEX, w -> w.connect(-1, 1, -1, 1, 12));
        Check.refused("client and radius", Check.INDEX, w -> w.connect(3, 1, 1, 0, 12));
        Check.refused("client and budget", Check.INDEX, w -> w.connect(-1, 1, 1, 1, 65));
    }

    // Promise 8, look: "Moves the center of a client and sets its radius." "Returns the number of entities in its
    // area afterwards."

    static void lookReturnsFromNoneToSixteen() {
        WorldDeltas w = Worlds.seen(16, 12);
        Check.due("all", w.look(0, 10, 10, 1), 16);
        Check.due("none", w.look(0, 12, 10, 1), 0);
        w.place(15, 13, 11, 0, 0);
        Check.due("one", w.look(0, 12, 11, 1), 1);
        Check.due("all but one", w.look(0, 9, 10, 2), 15);
    }

    static void lookCountsWithTheNewCenterAndRadius() {
        WorldDeltas w = new WorldDeltas();
        w.place(0, 10, 10, 0, 0);
        w.place(1, 20, 10, 0, 0);
        w.connect(1, 10, 10, 1, 12);
        Check.due("the new center", w.look(1, 20, 10, 1), 1);
        Check.due("distance", w.kept(1, 1, 8), 0);
        Check.due("the new radius", w.look(1, 20, 10, 10), 2);
        Check.due("one less", w.look(1, 20, 10, 9), 1);
    }

    static void lookTakesLeastAndGreatest() {
        WorldDeltas w = new WorldDeltas();
        w.place(0, 31, 31, 0, 0);
        for (int c = 0; c <= 2; c++) {
            w.connect(c, 9, 9, 9, 12);
        }
        Check.due("client 0, all least", w.look(0, 0, 0, 1), 0);
        Check.due("client 2, x and y greatest", w.look(2, 31, 31, 1), 1);
        Check.due("radius greatest", w.look(1, 0, 0, 31), 1);
        Check.due("distance from the least", w.kept(0, 0, 8), 31);
        Check.due("distance from the greatest", w.kept(2, 0, 8), 0);
        Check.due("x greatest alone", w.look(1, 31, 0, 30), 0);
        Check.due("y greatest alone", w.look(1, 1, 31, 30), 1);
    }

    static void lookChangesNothingElse() {
        WorldDeltas w = Worlds.busy();
        WorldDeltas twin = Worlds.busy();
        w.look(0, 31, 31, 1);
        for (int what = 0; what <= 8; what++) {
            Check.due("count " + what, w.count(0, what), twin.count(0, what));
        }
        for (int e = 0; e < 16; e++) {
            for (int what = 0; what <= 6; what++) {
                Check.due("kept " + e + " " + what, w.kept(0, e, what), twin.kept(0, e, what));
            }
            Check.due("copy " + e, w.copy(0, e, 5), twin.copy(0, e, 5));
            Check.due("distance for client 2", w.kept(2, e, 8), twin.kept(2, e, 8));
        }
    }

    static void lookRefusesNumbersOfNoClient() {
        for (int c : Check.beyond(0, 2)) {
            Check.refused("look " + c, Check.INDEX, w -> w.look(c, 1, 1, 1));
        }
    }

    static void lookRefusesX() {
        for (int x : Check.beyond(0, 31)) {
            Check.refused("look x " + x, Check.ARGUMENT, w -> w.look(0, x, 1, 1));
        }
    }

    static void lookRefusesY() {
        for (int y : Check.beyond(0, 31)) {
            Check.refused("look y " + y, Check.ARGUMENT, w -> w.look(0, 1, y, 1));
        }
    }

    static void lookRefusesRadius() {
        for (int radius : Check.beyond(1, 31)) {
            Check.refused("look radius " + radius, Check.ARGUMENT, w -> w.look(0, 1, 1, radius));
        }
    }

    static void lookRefusesAClientThatIsNotConnected() {
        Check.refused("look", Check.STATE, w -> w.look(1, 1, 1, 1));
        WorldDeltas w = Worlds.busy();
        w.disconnect(0);
        Check.dueThrow("look", w, Check.STATE, () -> w.look(0, 1, 1, 1));
    }

    static void lookThrowsInTheOrderOfTheList() {
        Check.refused("client and x", Check.INDEX, w -> w.look(3, 32, 1, 1));
        Check.refused("client and y", Check.INDEX, w -> w.look(-1, 1, -1, 1));
        Check.refused("client and radius", Check.INDEX, w -> w.look(3, 1, 1, 0));
        Check.refused("x and connection", Check.ARGUMENT, w -> w.look(1, -1, 1, 1));
        Check.refused("y and connection", Check.ARGUMENT, w -> w.look(1, 1, 32, 1));
        Check.refused("radius and connection", Check.ARGUMENT, w -> w.look(1, 1, 1, 32));
    }

    // Promise 9, disconnect: "everything that client and server keep for it is as at first." "Returns the number of
    // packets that it was sent."

    static void disconnectReturnsThePacketsSent() {
        WorldDeltas w = Worlds.seen(1, 12);
        w.lose(0, 2, 0);
        w.setTimes(1, 1);
        w.tick(4);
        Check.due("lost ones too", w.disconnect(0), 4);
        w.connect(0, 10, 10, 31, 12);
        Check.due("none", w.disconnect(0), 0);
        w.connect(2, 10, 10, 31, 12);
        w.tick(1);
        Check.due("those of this connection", w.disconnect(2), 1);
    }

    static void disconnectLeavesAllAsAtFirst() {
        WorldDeltas w = full();
        w.disconnect(0);
        for (int what = 0; what <= 8; what++) {
            Check.due("count " + what, w.count(0, what), 0);
        }
        for (int e = 0; e < 16; e++) {
            for (int what = 0; what <= 6; what++) {
                Check.due("copy " + e + " " + what, w.copy(0, e, what), 0);
            }
        }
        Check.dueThrow("no packet is in flight", w, Check.ARGUMENT, () -> w.packet(0, 0, 0));
        Check.dueThrow("it is not connected", w, Check.STATE, () -> w.kept(0, 0, 0));
        w.connect(0, 10, 10, 31, 16);
        dueAnew("connected again", w);
        Check.due("losses", w.lose(0, 0, 0), 0);
    }

    static void disconnectEndsWhatIsOnItsWay() {
        WorldDeltas w = Worlds.seen(1, 12);
        w.setTimes(5, 1);
        w.tick(9);
        w.disconnect(0);
        w.tick(1);
        Check.due("no record", w.copy(0, 0, 6), 0);
        Check.due("no acknowledgement", w.count(0, 4), 0);
        w.connect(0, 31, 31, 1, 12);
        w.tick(10);
        Check.due("no record", w.copy(0, 0, 6), 0);
        Check.due("no acknowledgement", w.count(0, 4), 0);
    }

    static void disconnectChangesNoOtherClient() {
        WorldDeltas w = Worlds.busy();
        WorldDeltas twin = Worlds.busy();
        w.disconnect(0);
        w.tick(5);
        twin.tick(5);
        for (int what = 0; what <= 8; what++) {
            Check.due("count of client 2, " + what, w.count(2, what), twin.count(2, what));
        }
        for (int e = 0; e < 16; e++) {
            Check.due("copy of client 2", w.copy(2, e, 5), twin.copy(2, e, 5));
            Check.due("baseline for client 2", w.kept(2, e, 1), twin.kept(2, e, 1));
        }
    }

    static void disconnectRefusesNumbersOfNoClient() {
        for (int c : Check.beyond(0, 2)) {
            Check.refused("disconnect " + c, Check.INDEX, w -> w.disconnect(c));
        }
    }

    static void disconnectRefusesAClientThatIsNotConnected() {
        Check.refused("disconnect", Check.STATE, w -> w.disconnect(1));
        WorldDeltas w = Worlds.busy();
        w.disconnect(0);
        Check.dueThrow("disconnect twice", w, Check.STATE, () -> w.disconnect(0));
    }

    // Promise 10, setTimes: "Sets delay and interval, for what is sent from now on." "Returns the previous delay."

    static void setTimesReturnsThePreviousDelay() {
        WorldDeltas w = new WorldDeltas();
        Check.due("at first", w.setTimes(10, 3), 2);
        Check.due("the greatest", w.setTimes(1, 4), 10);
        Check.due("the least", w.setTimes(1, 5), 1);
        Check.due("the same again", w.setTimes(6, 5), 1);
    }

    static void setTimesTakesLeastAndGreatest() {
        WorldDeltas w = new WorldDeltas();
        Check.due("both least", w.setTimes(1, 1), 2);
        Check.due("both greatest", w.setTimes(10, 10), 1);
        Check.due("delay least", w.setTimes(1, 10), 10);
        Check.due("interval least", w.setTimes(10, 1), 1);
        Check.due("undo", w.setTimes(5, 5), 10);
    }

    static void setTimesLeavesWhatIsOnItsWay() {
        WorldDeltas w = Worlds.seen(1, 12);
        w.setTimes(5, 10);
        w.tick(10);
        w.setTimes(1, 10);
        w.tick(4);
        Check.due("the packet is not there", w.copy(0, 0, 6), 0);
        w.setTimes(3, 10);
        w.tick(1);
        Check.due("the packet is there", w.copy(0, 0, 6), 1);
        w.setTimes(1, 10);
        w.tick(2);
        Check.due("its acknowledgement is not there", w.count(0, 4), 0);
        w.setTimes(10, 10);
        w.tick(1);
        Check.due("its acknowledgement is there", w.count(0, 4), 1);
    }

    static void setTimesRefusesDelay() {
        for (int delay : Check.beyond(1, 10)) {
            Check.refused("setTimes delay " + delay, Check.ARGUMENT, w -> w.setTimes(delay, 3));
        }
    }

    static void setTimesRefusesInterval() {
        for (int interval : Check.beyond(1, 10)) {
            Check.refused("setTimes interval " + interval, Check.ARGUMENT, w -> w.setTimes(3, interval));
        }
    }

    // Promise 11, lose: "Lets the next packets for a client, and the next acknowledgements from it, be lost, instead
    // of what was told before." "Returns how many packets were still going to be lost before."

    static void loseTakesLeastAndGreatest() {
        WorldDeltas w = new WorldDeltas();
        for (int c = 0; c <= 2; c++) {
            w.connect(c, 9, 9, 9, 12);
            Check.due("both least", w.lose(c, 0, 0), 0);
            Check.due("packets greatest", w.lose(c, 50, 0), 0);
            Check.due("acknowledgements greatest", w.lose(c, 0, 50), 50);
            Check.due("both greatest", w.lose(c, 50, 50), 0);
            Check.due("both least again", w.lose(c, 0, 0), 50);
        }
    }

    static void loseLosesSoManyPacketsAndNoMore() {
        WorldDeltas w = Worlds.seen(1, 12);
        w.setTimes(1, 1);
        w.lose(0, 3, 0);
        w.tick(3);
        Check.due("three are lost", w.count(0, 2), 3);
        w.tick(1);
        Check.due("the fourth is not", w.count(0, 2), 3);
        w.tick(1);
        Check.due("it is the first record", w.copy(0, 0, 5) * 10 + w.copy(0, 0, 6), 41);
    }

    static void loseLosesSoManyAcknowledgementsAndNoMore() {
        WorldDeltas w = Worlds.seen(1, 12);
        w.setTimes(1, 1);
        w.lose(0, 0, 2);
        w.tick(3);
        Check.due("two are lost", w.count(0, 3), 2);
        w.tick(1);
        Check.due("the third is not", w.count(0, 3) * 10 + w.count(0, 4), 20);
        w.tick(1);
        Check.due("it has arrived", w.count(0, 4) * 10 + w.kept(0, 0, 1), 13);
    }

    static void loseOfNoneLosesNone() {
        WorldDeltas w = Worlds.seen(1, 12);
        w.setTimes(1, 1);
        w.lose(0, 0, 0);
        w.tick(4);
        Check.due("packets and acknowledgements lost", w.count(0, 2) + w.count(0, 3), 0);
    }

    static void loseOfFiftyLosesFifty() {
        WorldDeltas w = Worlds.seen(1, 12);
        w.setTimes(1, 1);
        w.lose(0, 50, 50);
        w.tick(50);
        Check.due("fifty packets are lost", w.count(0, 2), 50);
        Check.due("none is to be lost any more", w.lose(0, 0, 50), 0);
        w.setVelocity(0, 1, 0);
        w.tick(1);
        Check.due("the next packet is not", w.count(0, 2) * 100 + w.count(0, 0), 5051);
        w.tick(50);
        Check.due("fifty acknowledgements are lost", w.count(0, 3), 50);
        w.tick(1);
        Check.due("the next one is not", w.count(0, 3), 50);
    }

    static void loseIsInsteadOfWhatWasTold() {
        WorldDeltas w = Worlds.seen(1, 12);
        w.setTimes(1, 1);
        w.lose(0, 40, 40);
        w.lose(0, 1, 2);
        w.tick(6);
        Check.due("packets lost", w.count(0, 2), 1);
        Check.due("acknowledgements lost", w.count(0, 3), 2);
        w.lose(0, 40, 40);
        w.lose(0, 0, 0);
        w.setVelocity(0, 1, 1);
        w.tick(6);
        Check.due("packets lost", w.count(0, 2), 1);
        Check.due("acknowledgements lost", w.count(0, 3), 2);
    }

    static void loseReturnsWhatIsLeft() {
        WorldDeltas w = Worlds.seen(1, 12);
        w.setTimes(1, 3);
        w.lose(0, 3, 50);
        w.tick(2);
        Check.due("a tick without a packet loses none", w.lose(0, 3, 50), 3);
        w.tick(2);
        Check.due("one is lost", w.lose(0, 2, 50), 2);
        w.tick(6);
        Check.due("none is left", w.lose(0, 0, 0), 0);
        w.tick(6);
        Check.due("and not less than none", w.lose(0, 0, 0), 0);
    }

    static void loseWaitsUntilThereIsSomethingToSend() {
        WorldDeltas w = Worlds.told(1);
        w.setTimes(1, 1);
        w.lose(0, 3, 0);
        w.tick(5);
        Check.due("no packet was sent", w.count(0, 0), 1);
        Check.due("all are still going to be lost", w.lose(0, 3, 0), 3);
        w.setHealth(0, 6);
        w.tick(1);
        Check.due("one is lost", w.count(0, 2), 1);
        Check.due("two are still going to be", w.lose(0, 0, 0), 2);
    }

    static void loseWaitsWhileTwelveAreInFlight() {
        WorldDeltas w = Worlds.seen(1, 12);
        w.setTimes(10, 1);
        w.tick(12);
        w.lose(0, 3, 0);
        w.tick(5);
        Check.due("all are still going to be lost", w.lose(0, 3, 0), 3);
        Check.due("none is lost", w.count(0, 2), 0);
    }

    static void lostPacketsUseUpNoAcknowledgement() {
        WorldDeltas w = Worlds.seen(1, 12);
        w.setTimes(1, 1);
        w.lose(0, 2, 1);
        w.tick(3);
        Check.due("no acknowledgement is lost with its packet", w.count(0, 3), 0);
        w.tick(1);
        Check.due("that of the third packet is", w.count(0, 3), 1);
    }

    static void loseConcernsOneClient() {
        WorldDeltas w = Worlds.seen(1, 12);
        w.connect(1, 10, 10, 31, 12);
        w.setTimes(1, 1);
        w.lose(1, 1, 1);
        w.tick(4);
        Check.due("packets lost by 0", w.count(0, 2), 0);
        Check.due("acknowledgements lost by 0", w.count(0, 3), 0);
        Check.due("packets lost by 1", w.count(1, 2), 1);
        Check.due("acknowledgements lost by 1", w.count(1, 3), 1);
    }

    static void loseRefusesNumbersOfNoClient() {
        for (int c : Check.beyond(0, 2)) {
            Check.refused("lose " + c, Check.INDEX, w -> w.lose(c, 1, 1));
        }
    }

    static void loseRefusesPackets() {
        for (int packets : Check.beyond(0, 50)) {
            Check.refused("lose packets " + packets, Check.ARGUMENT, w -> w.lose(0, packets, 1));
        }
    }

    static void loseRefusesAcknowledgements() {
        for (int acks : Check.beyond(0, 50)) {
            Check.refused("lose acknowledgements " + acks, Check.ARGUMENT, w -> w.lose(0, 1, acks));
        }
    }

    static void loseRefusesAClientThatIsNotConnected() {
        Check.refused("lose", Check.STATE, w -> w.lose(1, 1, 1));
        WorldDeltas w = Worlds.busy();
        w.disconnect(0);
        Check.dueThrow("lose", w, Check.STATE, () -> w.lose(0, 0, 0));
    }

    static void loseThrowsInTheOrderOfTheList() {
        Check.refused("client and packets", Check.INDEX, w -> w.lose(3, 51, 1));
        Check.refused("client and acknowledgements", Check.INDEX, w -> w.lose(-1, 1, -1));
        Check.refused("packets and connection", Check.ARGUMENT, w -> w.lose(1, -1, 1));
        Check.refused("acknowledgements and connection", Check.ARGUMENT, w -> w.lose(1, 1, 51));
    }
}
