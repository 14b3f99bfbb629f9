/** Promises 1 to 6: a new object, place, setVelocity, setHealth, destroy, entity. */
final class WorldTest {
    public static void main(String[] args) {
        newObject();
        placeAndEntity();
        placeKeepsVelocity();
        placeRefuses();
        setVelocity();
        setVelocityRefuses();
        setHealth();
        destroy();
        entityRefuses();
        Check.end();
    }

    private static void newObject() {
        WorldDeltas w = new WorldDeltas();
        Check.due("new time", w.time(), 0);
        for (int e = 0; e < 16; e++) {
            dueEntity(w, e, 0, 0, 0, 0, 0, 0, 0);
        }
        for (int c = 0; c < 3; c++) {
            newClient(w, c);
        }
        Check.dueThrow("new undo", w, Check.STATE, () -> w.undo());
        Check.due("new setTimes", w.setTimes(2, 2), 2);
    }

    private static void newClient(WorldDeltas w, int c) {
        for (int what = 0; what < 9; what++) {
            Check.due("new count " + what, w.count(c, what), 0);
        }
        for (int e = 0; e < 16; e++) {
            for (int what = 0; what < 7; what++) {
                Check.due("new copy " + what, w.copy(c, e, what), 0);
            }
        }
        Check.dueThrow("new stale", w, Check.STATE, () -> w.stale(c));
        Check.dueThrow("new kept", w, Check.STATE, () -> w.kept(c, 0, 0));
        Check.dueThrow("new packet", w, Check.ARGUMENT, () -> w.packet(c, 0, 0));
    }

    private static void dueEntity(WorldDeltas w, int e, int... want) {
        for (int what = 0; what < 7; what++) {
            Check.due("entity(" + e + ", " + what + ")", w.entity(e, what), want[what]);
        }
    }

    private static void placeAndEntity() {
        WorldDeltas w = new WorldDeltas();
        Check.due("place", w.place(0, 0, 0, 0, 0), false);
        dueEntity(w, 0, 1, 0, 0, 0, 0, 0, 0);
        Check.due("place", w.place(15, 31, 31, 3, 100), false);
        dueEntity(w, 15, 1, 31, 31, 3, 100, 0, 0);
        Check.due("place", w.place(7, 31, 0, 2, 64), false);
        dueEntity(w, 7, 1, 31, 0, 2, 64, 0, 0);
        Check.due("place again", w.place(7, 5, 6, 1, 63), true);
        dueEntity(w, 7, 1, 5, 6, 1, 63, 0, 0);
        dueEntity(w, 8, 0, 0, 0, 0, 0, 0, 0);
    }

    private static void placeKeepsVelocity() {
        WorldDeltas w = new WorldDeltas();
        w.place(3, 5, 5, 0, 1);
        w.setVelocity(3, 2, -3);
        Check.due("place", w.place(3, 8, 9, 1, 2), true);
        dueEntity(w, 3, 1, 8, 9, 1, 2, 2, -3);
        w.destroy(3);
        Check.due("place after destroy", w.place(3, 8, 9, 1, 2), false);
        dueEntity(w, 3, 1, 8, 9, 1, 2, 0, 0);
    }

    private static void placeRefuses() {
        WorldDeltas w = new WorldDeltas();
        w.place(3, 5, 5, 0, 1);
        for (int e : new int[] {-1, 16, Integer.MIN_VALUE, Integer.MAX_VALUE}) {
            Check.dueThrow("place entity " + e, w, Check.INDEX, () -> w.place(e, 0, 0, 0, 0));
            Check.dueThrow("place entity first " + e, w, Check.INDEX, () -> w.place(e, 32, -1, 4, 101));
        }
        for (int v : new int[] {-1, 32, Integer.MIN_VALUE, Integer.MAX_VALUE}) {
            Check.dueThrow("place x " + v, w, Check.ARGUMENT, () -> w.place(3, v, 0, 0, 0));
            Check.dueThrow("place y " + v, w, Check.ARGUMENT, () -> w.place(3, 0, v, 0, 0));
        }
        Check.dueThrow("place kind -1", w, Check.ARGUMENT, () -> w.place(3, 0, 0, -1, 0));
        Check.dueThrow("place kind 4", w, Check.ARGUMENT, () -> w.place(3, 0, 0, 4, 0));
        Check.dueThrow("place health -1", w, Check.ARGUMENT, () -> w.place(3, 0, 0, 0, -1));
        Check.dueThrow("place health 101", w, Check.ARGUMENT, () -> w.place(3, 0, 0, 0, 101));
    }

    private static void setVelocity() {
        WorldDeltas w = new WorldDeltas();
        w.place(0, 5, 5, 0, 1);
        Check.due("setVelocity", w.setVelocity(0, -3, 3), 33);
        dueEntity(w, 0, 1, 5, 5, 0, 1, -3, 3);
        Check.due("setVelocity", w.setVelocity(0, 3, -3), 6);
        Check.due("setVelocity", w.setVelocity(0, 1, -2), 60);
        Check.due("setVelocity", w.setVelocity(0, 0, 0), 41);
        Check.due("setVelocity", w.setVelocity(0, 0, 0), 33);
    }

    private static void setVelocityRefuses() {
        WorldDeltas w = new WorldDeltas();
        w.place(0, 5, 5, 0, 1);
        Check.dueThrow("setVelocity -1", w, Check.INDEX, () -> w.setVelocity(-1, 4, 4));
        Check.dueThrow("setVelocity 16", w, Check.INDEX, () -> w.setVelocity(16, 0, 0));
        Check.dueThrow("vx -4", w, Check.ARGUMENT, () -> w.setVelocity(0, -4, 0));
        Check.dueThrow("vx 4", w, Check.ARGUMENT, () -> w.setVelocity(0, 4, 0));
        Check.dueThrow("vy -4", w, Check.ARGUMENT, () -> w.setVelocity(0, 0, -4));
        Check.dueThrow("vy 4", w, Check.ARGUMENT, () -> w.setVelocity(0, 0, 4));
        Check.dueThrow("vx before existence", w, Check.ARGUMENT, () -> w.setVelocity(1, 4, 0));
        Check.dueThrow("vy before existence", w, Check.ARGUMENT, () -> w.setVelocity(1, 0, -4));
        Check.dueThrow("setVelocity of none", w, Check.STATE, () -> w.setVelocity(1, 0, 0));
    }

    private static void setHealth() {
        WorldDeltas w = new WorldDeltas();
        w.place(4, 31, 30, 3, 77);
        w.setVelocity(4, 1, 2);
        Check.due("setHealth", w.setHealth(4, 100), 77);
        Check.due("setHealth", w.setHealth(4, 0), 100);
        Check.due("setHealth", w.setHealth(4, 0), 0);
        dueEntity(w, 4, 1, 31, 30, 3, 0, 1, 2);
        Check.dueThrow("setHealth -1", w, Check.INDEX, () -> w.setHealth(-1, 101));
        Check.dueThrow("setHealth 16", w, Check.INDEX, () -> w.setHealth(16, 1));
        Check.dueThrow("health -1", w, Check.ARGUMENT, () -> w.setHealth(4, -1));
        Check.dueThrow("health 101", w, Check.ARGUMENT, () -> w.setHealth(4, 101));
        Check.dueThrow("health before existence", w, Check.ARGUMENT, () -> w.setHealth(5, 101));
        Check.dueThrow("setHealth of none", w, Check.STATE, () -> w.setHealth(5, 1));
    }

    private static void destroy() {
        WorldDeltas w = new WorldDeltas();
        w.place(0, 1, 1, 1, 1);
        w.place(9, 1, 1, 1, 1);
        w.setVelocity(9, 1, 1);
        w.place(15, 1, 1, 1, 1);
        Check.due("destroy", w.destroy(9), 2);
        dueEntity(w, 9, 0, 0, 0, 0, 0, 0, 0);
        Check.dueThrow("destroy twice", w, Check.STATE, () -> w.destroy(9));
        Check.dueThrow("destroy -1", w, Check.INDEX, () -> w.destroy(-1));
        Check.dueThrow("destroy 16", w, Check.INDEX, () -> w.destroy(16));
        Check.due("destroy", w.destroy(15), 1);
        Check.due("destroy", w.destroy(0), 0);
    }

    private static void entityRefuses() {
        WorldDeltas w = new WorldDeltas();
        Check.dueThrow("entity -1", w, Check.INDEX, () -> w.entity(-1, -1));
        Check.dueThrow("entity 16", w, Check.INDEX, () -> w.entity(16, 7));
        Check.dueThrow("entity what -1", w, Check.ARGUMENT, () -> w.entity(0, -1));
        Check.dueThrow("entity what 7", w, Check.ARGUMENT, () -> w.entity(0, 7));
    }
}
