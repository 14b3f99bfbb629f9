/** Promise 21, undo(): a test for each sentence that names a boundary, in their order. */
final class Promise21Test {
    public static void main(String[] args) {
        Check.runAll(Promise21Test.class);
    }

    // "Restores the latest saved state and removes it from the undo stack."

    static void undoRestoresTheLatest() {
        WorldDeltas w = new WorldDeltas();
        w.place(0, 1, 1, 1, 1);
        w.place(0, 2, 2, 2, 2);
        w.place(0, 3, 3, 3, 3);
        w.undo();
        Check.due("the latest", w.entity(0, 1), 2);
    }

    static void undoRemovesWhatItRestores() {
        WorldDeltas w = new WorldDeltas();
        w.place(0, 1, 1, 1, 1);
        w.place(0, 2, 2, 2, 2);
        w.undo();
        w.undo();
        Check.due("the one before it", w.entity(0, 0), 0);
    }

    static void undoRestoresWhatIsOnItsWay() {
        for (int ticks = 1; ticks <= 50; ticks += 7) {
            WorldDeltas w = Worlds.busy();
            WorldDeltas twin = Worlds.busy();
            w.tick(ticks);
            w.undo();
            for (int i = 0; i < 4; i++) {
                w.tick(4);
                twin.tick(4);
                Check.due("time", w.time(), twin.time());
                for (int what = 0; what <= 8; what++) {
                    Check.due("count " + what, w.count(0, what), twin.count(0, what));
                    Check.due("count of 2, " + what, w.count(2, what), twin.count(2, what));
                }
            }
            Check.due("digest", w.digest(), twin.digest());
        }
    }

    static void undoRestoresAClientThatWasDisconnected() {
        WorldDeltas w = Worlds.busy();
        WorldDeltas twin = Worlds.busy();
        w.disconnect(0);
        w.connect(0, 1, 1, 1, 12);
        w.undo();
        w.undo();
        for (int i = 0; i < 4; i++) {
            w.tick(4);
            twin.tick(4);
        }
        Check.due("digest", w.digest(), twin.digest());
    }

    static void aRestoredStateIsNotTheSavedOneItself() {
        WorldDeltas w = Worlds.busy();
        w.undo();
        long before = w.digest();
        w.tick(1);
        w.undo();
        Check.due("digest", w.digest(), before);
        w.setHealth(1, 1);
        w.undo();
        Check.due("digest after another call", w.digest(), before);
    }

    // "Returns the number of states that are left on the stack."

    static void undoReturnsFromTwoToNone() {
        WorldDeltas w = Worlds.busy();
        Check.due("of a full stack", w.undo(), 2);
        Check.due("of two", w.undo(), 1);
        Check.due("of one", w.undo(), 0);
    }

    // "Throws IllegalStateException if the stack is empty"

    static void undoRefusesAnEmptyStack() {
        WorldDeltas w = new WorldDeltas();
        Check.dueThrow("a new object", w, Check.STATE, () -> w.undo());
        w.tick(1);
        Check.due("left", w.undo(), 0);
        Check.dueThrow("all undone", w, Check.STATE, () -> w.undo());
        Check.dueThrow("once more", w, Check.STATE, () -> w.undo());
        w.tick(1);
        Check.due("left", w.undo(), 0);
    }

    static void aRefusedUndoChangesNothing() {
        WorldDeltas w = Worlds.busy();
        WorldDeltas twin = Worlds.busy();
        for (int i = 0; i < 3; i++) {
            w.undo();
            twin.undo();
        }
        Check.dueThrow("undo", w, Check.STATE, () -> w.undo());
        for (int i = 0; i < 4; i++) {
            Check.due("digest", w.digest(), twin.digest());
            w.tick(4);
            twin.tick(4);
        }
    }
}
