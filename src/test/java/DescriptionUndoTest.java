/** UNDO and EXCEPTIONS in the description: a test for each sentence that names a boundary, in their order. */
final class DescriptionUndoTest {
    public static void main(String[] args) {
        Check.runAll(DescriptionUndoTest.class);
    }

    // "Every method that is marked "undoable" saves the whole state on an undo stack when it ends normally, .."

    /** The busy world with two saved states, so that there is room for one more. */
    private static WorldDeltas roomForOne() {
        WorldDeltas w = Worlds.busy();
        w.undo();
        return w;
    }

    private static void dueAlikeFromNowOn(String call, WorldDeltas w, WorldDeltas twin) {
        for (int i = 0; i < 6; i++) {
            Check.due(call + ", digest at " + twin.time(), w.digest(), twin.digest());
            w.tick(3);
            twin.tick(3);
        }
    }

    private static void dueSaved(String call, Check.CallOn run) {
        WorldDeltas w = roomForOne();
        run.on(w);
        Check.due(call + ", states left by undo", w.undo(), 2);
        dueAlikeFromNowOn(call, w, roomForOne());
    }

    static void placeSaves() {
        dueSaved("place", w -> w.place(3, 1, 1, 1, 1));
        dueSaved("place of a new one", w -> w.place(13, 1, 1, 1, 1));
    }

    static void setVelocitySaves() {
        dueSaved("setVelocity", w -> w.setVelocity(3, 1, 1));
    }

    static void setHealthSaves() {
        dueSaved("setHealth", w -> w.setHealth(3, 99));
    }

    static void destroySaves() {
        dueSaved("destroy", w -> w.destroy(3));
    }

    static void connectSaves() {
        dueSaved("connect", w -> w.connect(1, 1, 1, 1, 12));
        dueSaved("connect again", w -> w.connect(0, 1, 1, 1, 12));
    }

    static void lookSaves() {
        dueSaved("look", w -> w.look(0, 1, 1, 1));
    }

    static void disconnectSaves() {
        dueSaved("disconnect", w -> w.disconnect(0));
        dueSaved("disconnect of the other one", w -> w.disconnect(2));
    }

    static void setTimesSaves() {
        dueSaved("setTimes", w -> w.setTimes(7, 7));
    }

    static void loseSaves() {
        dueSaved("lose", w -> w.lose(0, 7, 7));
        dueSaved("lose none", w -> w.lose(2, 0, 0));
    }

    static void tickSaves() {
        dueSaved("tick(1)", w -> w.tick(1));
        dueSaved("tick(7)", w -> w.tick(7));
        dueSaved("tick(50)", w -> w.tick(50));
    }

    // ".. also if it changes nothing."

    static void placeOfTheSameStateSaves() {
        dueSaved("place", w -> w.place(3, w.entity(3, 1), w.entity(3, 2), w.entity(3, 3), w.entity(3, 4)));
    }

    static void setVelocityOfTheSameVelocitySaves() {
        dueSaved("setVelocity", w -> w.setVelocity(3, w.entity(3, 5), w.entity(3, 6)));
    }

    static void setHealthOfTheSameHealthSaves() {
        dueSaved("setHealth", w -> w.setHealth(3, w.entity(3, 4)));
    }

    static void connectOfANewClientWithTheSameValuesSaves() {
        WorldDeltas w = new WorldDeltas();
        w.connect(1, 5, 6, 7, 12);
        w.connect(1, 5, 6, 7, 12);
        Check.due("states left", w.undo(), 1);
        Check.due("it is connected", w.stale(1), 0);
    }

    static void lookAtTheSameAreaSaves() {
        dueSaved("look", w -> w.look(0, 10, 10, 20));
    }

    static void setTimesOfTheSameTimesSaves() {
        dueSaved("setTimes", w -> w.setTimes(4, 1));
    }

    static void loseOfTheSameNumbersSaves() {
        dueSaved("lose", w -> w.lose(0, 0, 0));
    }

    // What is not marked "undoable" saves nothing.

    private static void dueNotSaved(String call, Check.CallOn run) {
        WorldDeltas w = roomForOne();
        WorldDeltas twin = roomForOne();
        run.on(w);
        Check.due(call + ", digest", w.digest(), twin.digest());
        Check.due(call + ", states left", w.undo(), 1);
        twin.undo();
        dueAlikeFromNowOn(call, w, twin);
        WorldDeltas full = Worlds.busy();
        WorldDeltas fullTwin = Worlds.busy();
        run.on(full);
        for (int left = 2; left >= 0; left--) {
            Check.due(call + ", states left on a full stack", full.undo(), left);
            fullTwin.undo();
            Check.due(call + ", digest", full.digest(), fullTwin.digest());
        }
    }

    static void readingSavesNothing() {
        dueNotSaved("entity", w -> w.entity(3, 1));
        dueNotSaved("time", w -> w.time());
        dueNotSaved("copy", w -> w.copy(0, 3, 1));
        dueNotSaved("kept", w -> w.kept(0, 3, 0));
        dueNotSaved("count", w -> w.count(0, 0));
        dueNotSaved("stale", w -> w.stale(0));
        dueNotSaved("packet", w -> w.packet(0, 0, 0));
        dueNotSaved("entry", w -> w.entry(0, 0, 0, 0));
        dueNotSaved("price", w -> w.price(0, 3));
        dueNotSaved("digest", w -> w.digest());
    }

    static void undoSavesNothing() {
        WorldDeltas w = new WorldDeltas();
        w.place(0, 1, 0, 0, 0);
        w.place(0, 2, 0, 0, 0);
        Check.due("states left", w.undo(), 1);
        Check.due("states left", w.undo(), 0);
        Check.due("the first place is undone", w.entity(0, 0), 0);
    }

    // "The saved state is the one from before the call."

    static void theStateBeforeTheCallIsSaved() {
        WorldDeltas w = new WorldDeltas();
        long[] before = new long[3];
        before[0] = w.digest();
        w.place(0, 1, 1, 1, 1);
        before[1] = w.digest();
        w.connect(0, 1, 1, 1, 12);
        before[2] = w.digest();
        w.tick(5);
        for (int i = 2; i >= 0; i--) {
            w.undo();
            Check.due("digest " + i, w.digest(), before[i]);
        }
    }

    // "The stack keeps the latest 3 saved states and drops older ones."

    /** An object whose entity 0 was placed at the x of 0 to n - 1. */
    private static WorldDeltas placed(int n) {
        WorldDeltas w = new WorldDeltas();
        for (int x = 0; x < n; x++) {
            w.place(0, x, 0, 0, 0);
        }
        return w;
    }

    static void threeStatesAreKept() {
        WorldDeltas w = placed(3);
        Check.due("left", w.undo(), 2);
        Check.due("left", w.undo(), 1);
        Check.due("x", w.entity(0, 1), 0);
        Check.due("left", w.undo(), 0);
        Check.due("the very first one", w.entity(0, 0), 0);
        Check.dueThrow("no more", w, Check.STATE, () -> w.undo());
    }

    static void theFourthDropsTheOldest() {
        WorldDeltas w = placed(4);
        for (int left = 2; left >= 0; left--) {
            Check.due("left", w.undo(), left);
            Check.due("x", w.entity(0, 1), left);
        }
        Check.dueThrow("no more", w, Check.STATE, () -> w.undo());
        Check.due("the state without the entity is dropped", w.entity(0, 0), 1);
    }

    static void manyDropAllButThree() {
        WorldDeltas w = placed(20);
        for (int left = 2; left >= 0; left--) {
            Check.due("left", w.undo(), left);
            Check.due("x", w.entity(0, 1), 16 + left);
        }
        Check.dueThrow("no more", w, Check.STATE, () -> w.undo());
    }

    static void afterUndoThereIsRoomAgain() {
        WorldDeltas w = placed(5);
        w.undo();
        w.undo();
        w.place(0, 30, 0, 0, 0);
        w.place(0, 31, 0, 0, 0);
        int[] due = {30, 2, 1};
        for (int i = 0; i < 3; i++) {
            Check.due("left", w.undo(), 2 - i);
            Check.due("x", w.entity(0, 1), due[i]);
        }
        Check.dueThrow("no more", w, Check.STATE, () -> w.undo());
    }

    // "A call that throws an exception changes nothing." Check.refused() holds it for each refused call of the
    // promises; here it is for an empty stack, and for a new object.

    static void theWorldOfTheRefusedCallsIsBusy() {
        WorldDeltas w = Worlds.busy();
        for (int c = 0; c <= 2; c += 2) {
            Check.due("packets are in flight", w.count(c, 6) > 3, true);
            Check.due("acknowledgements have been received", w.count(c, 4) > 3, true);
        }
        int waiting = 0;
        for (int e = 0; e < 16; e++) {
            waiting += w.kept(0, e, 0) > 0 ? 1 : 0;
            Check.due("exists " + e, w.entity(e, 0), e < 12 ? 1 : 0);
        }
        Check.due("some have a priority", waiting > 3, true);
        Check.dueThrow("client 1 is not connected", w, Check.STATE, () -> w.stale(1));
        Check.due("packets are still to be lost", w.lose(2, 1, 1), 1);
        Check.due("the undo stack was full", w.undo(), 2);
    }

    static void aRefusedCallOnANewObject() {
        WorldDeltas w = new WorldDeltas();
        Check.dueThrow("place", w, Check.ARGUMENT, () -> w.place(0, 0, 0, 4, 0));
        Check.dueThrow("connect", w, Check.ARGUMENT, () -> w.connect(0, 0, 0, 1, 11));
        Check.dueThrow("setTimes", w, Check.ARGUMENT, () -> w.setTimes(5, 11));
        Check.dueThrow("tick", w, Check.ARGUMENT, () -> w.tick(51));
        Check.dueThrow("nothing was saved", w, Check.STATE, () -> w.undo());
        Check.due("the digest of a new object", w.digest(), new WorldDeltas().digest());
        Check.due("previous delay", w.setTimes(3, 3), 2);
    }

    static void aRefusedCallBetweenTwoOthers() {
        WorldDeltas w = placed(2);
        Check.dueThrow("place", w, Check.ARGUMENT, () -> w.place(0, 7, 7, 0, 101));
        Check.dueThrow("setHealth", w, Check.STATE, () -> w.setHealth(1, 1));
        Check.due("left", w.undo(), 1);
        Check.due("x", w.entity(0, 1), 0);
    }

    // "If several exceptions of a method apply, the one that is listed first is thrown." The tests of the promises
    // hold it for each pair; here are the longest lists.

    static void theExceptionThatIsListedFirst() {
        Check.refused("kept, all three", Check.INDEX, w -> w.kept(3, 16, 9));
        Check.refused("kept, two", Check.ARGUMENT, w -> w.kept(1, 0, 9));
        Check.refused("look, all three", Check.INDEX, w -> w.look(-1, 32, 0, 0));
        Check.refused("look, two", Check.ARGUMENT, w -> w.look(1, 0, 0, 0));
        Check.refused("setHealth, all three", Check.INDEX, w -> w.setHealth(16, -1));
        Check.refused("setHealth, two", Check.ARGUMENT, w -> w.setHealth(15, -1));
    }

    // "NONE is returned only if no exception applies."

    static void noneIsReturnedOnlyWithoutAnException() {
        WorldDeltas w = Worlds.busy();
        Check.due("no such entity now", w.kept(0, 15, 8), WorldDeltas.NONE);
        Check.refused("not connected", Check.STATE, x -> x.kept(1, 15, 8));
        Check.refused("no such number", Check.INDEX, x -> x.kept(0, 16, 8));
    }
}
