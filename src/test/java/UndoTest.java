/** Promise 21: undo, and which methods are undoable. */
final class UndoTest {
    public static void main(String[] args) {
        emptyStack();
        latestThree();
        everyUndoableMethod();
        unchangingCallsAreSavedToo();
        refusedCallsAreNotSaved();
        savedStatesStandAlone();
        undoAfterUndo();
        Check.end();
    }

    private static void emptyStack() {
        WorldDeltas w = new WorldDeltas();
        Check.dueThrow("undo", w, Check.STATE, () -> w.undo());
        w.place(0, 1, 1, 1, 1);
        Check.due("undo", w.undo(), 0);
        Check.due("undone", w.entity(0, 0), 0);
        Check.dueThrow("undo", w, Check.STATE, () -> w.undo());
    }

    private static void latestThree() {
        WorldDeltas w = new WorldDeltas();
        for (int i = 0; i < 5; i++) {
            w.place(0, i, 0, 0, 0);
        }
        for (int i = 3; i >= 1; i--) {
            Check.due("undo", w.undo(), i - 1);
            Check.due("x", w.entity(0, 1), i);
        }
        Check.dueThrow("undo", w, Check.STATE, () -> w.undo());
        Check.due("x", w.entity(0, 1), 1);
    }

    /** A world with packets and acknowledgements on their way and an empty undo stack. */
    private static WorldDeltas busy() {
        WorldDeltas w = new WorldDeltas();
        for (int e = 0; e < 12; e++) {
            w.place(e, 2 * e, 31 - e, e % 4, 5 * e);
            w.setVelocity(e, e % 7 - 3, 3 - e % 5);
        }
        w.connect(0, 10, 10, 20, 40);
        w.connect(2, 20, 20, 9, 64);
        w.setTimes(4, 1);
        w.tick(17);
        w.lose(2, 3, 2);
        w.tick(2);
        // The stack is emptied by taking back three calls that do not matter.
        w.tick(9);
        w.disconnect(2);
        w.connect(0, 1, 1, 1, 12);
        w.undo();
        w.undo();
        w.undo();
        Check.due("busy time", w.time(), 19);
        Check.due("busy packets", w.count(0, 6) > 3 && w.count(2, 6) > 3, true);
        return w;
    }

    private static void dueUndo(String call, WorldDeltas w, Check.Call run) {
        WorldDeltas twin = busy();
        long before = w.digest();
        run.run();
        Check.due(call + " undo", w.undo(), 0);
        Check.due(call + " digest", w.digest(), before);
        w.tick(30);
        twin.tick(30);
        Check.due(call + " digest later", w.digest(), twin.digest());
        w.undo();
        Check.due(call + " digest at last", w.digest(), before);
    }

    private static void everyUndoableMethod() {
        WorldDeltas w = busy();
        dueUndo("place", w, () -> w.place(3, 1, 1, 1, 1));
        dueUndo("place of a new one", w, () -> w.place(13, 1, 1, 1, 1));
        dueUndo("setVelocity", w, () -> w.setVelocity(3, 1, 1));
        dueUndo("setHealth", w, () -> w.setHealth(3, 99));
        dueUndo("destroy", w, () -> w.destroy(3));
        dueUndo("connect", w, () -> w.connect(1, 1, 1, 1, 12));
        dueUndo("connect again", w, () -> w.connect(0, 1, 1, 1, 12));
        dueUndo("look", w, () -> w.look(0, 1, 1, 1));
        dueUndo("disconnect", w, () -> w.disconnect(0));
        dueUndo("setTimes", w, () -> w.setTimes(7, 7));
        dueUndo("lose", w, () -> w.lose(0, 7, 7));
        dueUndo("tick", w, () -> w.tick(1));
        dueUndo("tick 50", w, () -> w.tick(50));
    }

    private static void unchangingCallsAreSavedToo() {
        WorldDeltas w = new WorldDeltas();
        w.place(0, 1, 1, 1, 1);
        w.place(0, 1, 1, 1, 1);
        Check.due("place", w.undo(), 1);
        w.setVelocity(0, 0, 0);
        Check.due("setVelocity", w.undo(), 1);
        w.setHealth(0, 1);
        Check.due("setHealth", w.undo(), 1);
        w.setTimes(2, 2);
        Check.due("setTimes", w.undo(), 1);
        w.connect(0, 1, 1, 1, 12);
        w.connect(0, 1, 1, 1, 12);
        Check.due("connect", w.undo(), 2);
        w.lose(0, 0, 0);
        Check.due("lose", w.undo(), 2);
        w.look(0, 1, 1, 1);
        Check.due("look", w.undo(), 2);
    }

    private static void refusedCallsAreNotSaved() {
        WorldDeltas w = new WorldDeltas();
        w.place(0, 1, 1, 1, 1);
        Check.dueThrow("place", w, Check.ARGUMENT, () -> w.place(0, 32, 0, 0, 0));
        Check.dueThrow("setVelocity", w, Check.STATE, () -> w.setVelocity(1, 0, 0));
        Check.dueThrow("destroy", w, Check.STATE, () -> w.destroy(1));
        Check.dueThrow("look", w, Check.STATE, () -> w.look(1, 0, 0, 1));
        Check.dueThrow("tick", w, Check.ARGUMENT, () -> w.tick(0));
        Check.due("undo", w.undo(), 0);
    }

    private static void savedStatesStandAlone() {
        WorldDeltas w = busy();
        long first = w.digest();
        w.tick(3);
        w.tick(3);
        w.setHealth(1, 3);
        w.undo();
        w.undo();
        w.tick(10);
        w.connect(0, 1, 1, 1, 12);
        w.undo();
        w.undo();
        w.undo();
        Check.due("digest", w.digest(), first);
    }

    private static void undoAfterUndo() {
        WorldDeltas w = new WorldDeltas();
        w.place(0, 1, 0, 0, 0);
        w.place(0, 2, 0, 0, 0);
        Check.due("undo", w.undo(), 1);
        w.place(0, 3, 0, 0, 0);
        Check.due("undo", w.undo(), 1);
        Check.due("undo is not undoable", w.entity(0, 1), 1);
        Check.due("undo", w.undo(), 0);
        Check.due("undone", w.entity(0, 0), 0);
    }
}
