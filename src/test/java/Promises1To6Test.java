/** Promises 1 to 6, from the new object to entity(): a test for each sentence that names a boundary, in their order. */
final class Promises1To6Test {
    public static void main(String[] args) {
        Check.runAll(Promises1To6Test.class);
    }

    // Promise 1: "Creates a world without entities and clients, as described, with all counts 0 and an empty undo
    // stack."

    static void aNewWorldIsWithoutEntities() {
        WorldDeltas w = new WorldDeltas();
        for (int e = 0; e < 16; e++) {
            for (int what = 0; what <= 6; what++) {
                Check.due("entity " + e + " " + what, w.entity(e, what), 0);
            }
        }
    }

    static void aNewWorldIsWithoutClients() {
        for (int client = 0; client < 3; client++) {
            int c = client;
            WorldDeltas w = new WorldDeltas();
            Check.dueThrow("stale", w, Check.STATE, () -> w.stale(c));
            Check.dueThrow("packet", w, Check.ARGUMENT, () -> w.packet(c, 0, 0));
            Check.due("connect", w.connect(c, 0, 0, 1, 12), false);
        }
    }

    static void aNewWorldHasAllCountsZero() {
        WorldDeltas w = new WorldDeltas();
        for (int c = 0; c < 3; c++) {
            for (int what = 0; what <= 8; what++) {
                Check.due("count " + c + " " + what, w.count(c, what), 0);
            }
        }
        Check.due("time", w.time(), 0);
    }

    static void aNewWorldHasAnEmptyUndoStack() {
        WorldDeltas w = new WorldDeltas();
        Check.dueThrow("undo", w, Check.STATE, () -> w.undo());
    }

    static void objectsShareNothing() {
        WorldDeltas first = Worlds.busy();
        WorldDeltas second = new WorldDeltas();
        Check.due("digest", second.digest(), new WorldDeltas().digest());
        second.place(3, 1, 1, 1, 1);
        second.connect(0, 1, 1, 1, 12);
        second.setTimes(9, 9);
        second.tick(50);
        Check.due("digest", first.digest(), Worlds.busy().digest());
    }

    // Promise 2, place: "Lets an entity exist, with the velocity 0, or gives it a new state."

    private static void dueEntity(String call, WorldDeltas w, int e, int... want) {
        for (int what = 0; what <= 6; what++) {
            Check.due(call + ", entity " + e + " " + what, w.entity(e, what), want[what]);
        }
    }

    static void placeLetsAnEntityExistWithTheVelocityZero() {
        WorldDeltas w = new WorldDeltas();
        Check.due("place", w.place(8, 7, 6, 2, 5), false);
        dueEntity("place", w, 8, 1, 7, 6, 2, 5, 0, 0);
        Check.due("setVelocity", w.setVelocity(8, 1, 1), 33);
    }

    static void placeGivesANewState() {
        WorldDeltas w = new WorldDeltas();
        w.place(8, 7, 6, 2, 5);
        Check.due("place", w.place(8, 31, 0, 1, 100), true);
        dueEntity("place", w, 8, 1, 31, 0, 1, 100, 0, 0);
    }

    static void placeTakesLeastAndGreatest() {
        WorldDeltas w = new WorldDeltas();
        int[][] all = {{0, 9, 9, 1, 9}, {15, 9, 9, 1, 9}, {1, 0, 9, 1, 9}, {2, 31, 9, 1, 9}, {3, 9, 0, 1, 9},
            {4, 9, 31, 1, 9}, {5, 9, 9, 0, 9}, {6, 9, 9, 3, 9}, {7, 9, 9, 1, 0}, {8, 9, 9, 1, 100}};
        for (int[] a : all) {
            Check.due("place " + a[0], w.place(a[0], a[1], a[2], a[3], a[4]), false);
            dueEntity("place", w, a[0], 1, a[1], a[2], a[3], a[4], 0, 0);
        }
    }

    // "Returns true if it existed before (it keeps its velocity then)."

    static void placeKeepsTheVelocityOfOneThatExisted() {
        WorldDeltas w = new WorldDeltas();
        w.place(8, 7, 6, 2, 5);
        w.setVelocity(8, -3, 3);
        Check.due("place", w.place(8, 9, 9, 0, 0), true);
        dueEntity("place", w, 8, 1, 9, 9, 0, 0, -3, 3);
    }

    static void placeOfADestroyedOneBeginsWithTheVelocityZero() {
        WorldDeltas w = new WorldDeltas();
        w.place(8, 7, 6, 2, 5);
        w.setVelocity(8, -3, 3);
        w.destroy(8);
        Check.due("place", w.place(8, 9, 9, 0, 0), false);
        dueEntity("place", w, 8, 1, 9, 9, 0, 0, 0, 0);
    }

    static void placeChangesNoOtherEntity() {
        WorldDeltas w = Worlds.busy();
        w.place(8, 1, 1, 1, 1);
        WorldDeltas twin = Worlds.busy();
        for (int e = 0; e < 16; e++) {
            for (int what = 0; what <= 6 && e != 8; what++) {
                Check.due("entity " + e + " " + what, w.entity(e, what), twin.entity(e, what));
            }
        }
    }

    // "Throws IndexOutOfBoundsException if there is no such number of an entity"

    static void placeRefusesNumbersOfNoEntity() {
        for (int e : Check.beyond(0, 15)) {
            Check.refused("place entity " + e, Check.INDEX, w -> w.place(e, 1, 1, 1, 1));
        }
    }

    // "Throws IllegalArgumentException if another argument is out of range"

    static void placeRefusesX() {
        for (int x : Check.beyond(0, 31)) {
            Check.refused("place x " + x, Check.ARGUMENT, w -> w.place(3, x, 1, 1, 1));
        }
    }

    static void placeRefusesY() {
        for (int y : Check.beyond(0, 31)) {
            Check.refused("place y " + y, Check.ARGUMENT, w -> w.place(15, 1, y, 1, 1));
        }
    }

    static void placeRefusesKind() {
        for (int kind : Check.beyond(0, 3)) {
            Check.refused("place kind " + kind, Check.ARGUMENT, w -> w.place(3, 1, 1, kind, 1));
        }
    }

    static void placeRefusesHealth() {
        for (int health : Check.beyond(0, 100)) {
            Check.refused("place health " + health, Check.ARGUMENT, w -> w.place(15, 1, 1, 1, health));
        }
    }

    static void placeThrowsForTheNumberFirst() {
        Check.refused("place, number and x", Check.INDEX, w -> w.place(16, 32, 1, 1, 1));
        Check.refused("place, number and y", Check.INDEX, w -> w.place(-1, 1, -1, 1, 1));
        Check.refused("place, number and kind", Check.INDEX, w -> w.place(16, 1, 1, 4, 1));
        Check.refused("place, number and health", Check.INDEX, w -> w.place(-1, 1, 1, 1, 101));
    }

    // Promise 3, setVelocity: "Returns 10 * (previous vx + 3) + (previous vy + 3)."

    static void setVelocityTakesLeastAndGreatest() {
        WorldDeltas w = new WorldDeltas();
        w.place(0, 9, 9, 1, 9);
        w.place(15, 9, 9, 1, 9);
        int[][] all = {{-3, -3}, {3, 3}, {-3, 3}, {3, -3}, {0, 0}};
        int before = 33;
        for (int[] v : all) {
            Check.due("setVelocity of 0", w.setVelocity(0, v[0], v[1]), before);
            Check.due("setVelocity of 15", w.setVelocity(15, v[0], v[1]), before);
            dueEntity("setVelocity", w, 0, 1, 9, 9, 1, 9, v[0], v[1]);
            dueEntity("setVelocity", w, 15, 1, 9, 9, 1, 9, v[0], v[1]);
            before = 10 * (v[0] + 3) + v[1] + 3;
        }
    }

    static void setVelocityReturnsFromZeroToSixtySix() {
        WorldDeltas w = new WorldDeltas();
        w.place(4, 9, 9, 1, 9);
        w.setVelocity(4, -3, -3);
        Check.due("the least", w.setVelocity(4, 3, 3), 0);
        Check.due("the greatest", w.setVelocity(4, -3, 3), 66);
        Check.due("vx alone least", w.setVelocity(4, 3, -3), 6);
        Check.due("vy alone least", w.setVelocity(4, 0, 0), 60);
    }

    static void setVelocityRefusesNumbersOfNoEntity() {
        for (int e : Check.beyond(0, 15)) {
            Check.refused("setVelocity entity " + e, Check.INDEX, w -> w.setVelocity(e, 1, 1));
        }
    }

    static void setVelocityRefusesVx() {
        for (int v : Check.beyond(-3, 3)) {
            Check.refused("setVelocity vx " + v, Check.ARGUMENT, w -> w.setVelocity(3, v, 1));
        }
    }

    static void setVelocityRefusesVy() {
        for (int v : Check.beyond(-3, 3)) {
            Check.refused("setVelocity vy " + v, Check.ARGUMENT, w -> w.setVelocity(3, 1, v));
        }
    }

    // "Throws IllegalStateException if the entity does not exist"

    static void setVelocityRefusesOneThatDoesNotExist() {
        Check.refused("setVelocity of one that never was", Check.STATE, w -> w.setVelocity(12, 1, 1));
        WorldDeltas w = Worlds.busy();
        w.destroy(3);
        Check.dueThrow("setVelocity of a destroyed one", w, Check.STATE, () -> w.setVelocity(3, 0, 0));
    }

    static void setVelocityThrowsInTheOrderOfTheList() {
        Check.refused("number and vx", Check.INDEX, w -> w.setVelocity(16, 4, 0));
        Check.refused("number and vy", Check.INDEX, w -> w.setVelocity(-1, 0, -4));
        Check.refused("vx and existence", Check.ARGUMENT, w -> w.setVelocity(12, -4, 0));
        Check.refused("vy and existence", Check.ARGUMENT, w -> w.setVelocity(12, 0, 4));
    }

    // Promise 4, setHealth: "Returns the previous health."

    static void setHealthTakesLeastAndGreatest() {
        WorldDeltas w = new WorldDeltas();
        for (int e = 0; e <= 15; e += 15) {
            w.place(e, 31, 0, 3, 50);
            Check.due("setHealth", w.setHealth(e, 0), 50);
            dueEntity("setHealth", w, e, 1, 31, 0, 3, 0, 0, 0);
            Check.due("setHealth", w.setHealth(e, 100), 0);
            dueEntity("setHealth", w, e, 1, 31, 0, 3, 100, 0, 0);
            Check.due("setHealth", w.setHealth(e, 100), 100);
        }
    }

    static void setHealthKeepsAnEntityOfHealthZero() {
        WorldDeltas w = Worlds.seen(1, 12);
        w.setHealth(0, 0);
        Check.due("it exists", w.entity(0, 0), 1);
        Check.due("and is seen", w.kept(0, 0, 7), 1);
    }

    static void setHealthKeepsTheVelocity() {
        WorldDeltas w = new WorldDeltas();
        w.place(2, 9, 9, 1, 9);
        w.setVelocity(2, 3, -3);
        w.setHealth(2, 10);
        dueEntity("setHealth", w, 2, 1, 9, 9, 1, 10, 3, -3);
    }

    static void setHealthRefusesNumbersOfNoEntity() {
        for (int e : Check.beyond(0, 15)) {
            Check.refused("setHealth entity " + e, Check.INDEX, w -> w.setHealth(e, 1));
        }
    }

    static void setHealthRefusesHealth() {
        for (int health : Check.beyond(0, 100)) {
            Check.refused("setHealth health " + health, Check.ARGUMENT, w -> w.setHealth(3, health));
        }
    }

    static void setHealthRefusesOneThatDoesNotExist() {
        Check.refused("setHealth of one that never was", Check.STATE, w -> w.setHealth(12, 1));
        WorldDeltas w = Worlds.busy();
        w.destroy(3);
        Check.dueThrow("setHealth of a destroyed one", w, Check.STATE, () -> w.setHealth(3, 1));
    }

    static void setHealthThrowsInTheOrderOfTheList() {
        Check.refused("number and health", Check.INDEX, w -> w.setHealth(16, 101));
        Check.refused("health and existence", Check.ARGUMENT, w -> w.setHealth(12, -1));
    }

    // Promise 5, destroy: "Ends an entity: it does not exist any more." "Returns how many entities exist afterwards."

    static void destroyEndsAnEntity() {
        WorldDeltas w = new WorldDeltas();
        w.place(2, 9, 9, 1, 9);
        w.setVelocity(2, 3, -3);
        Check.due("destroy", w.destroy(2), 0);
        dueEntity("destroy", w, 2, 0, 0, 0, 0, 0, 0, 0);
    }

    static void destroyReturnsFromFifteenToZero() {
        WorldDeltas w = new WorldDeltas();
        for (int e = 0; e < 16; e++) {
            w.place(e, 1, 1, 1, 1);
        }
        for (int e = 0; e < 16; e++) {
            Check.due("destroy " + e, w.destroy(e), 15 - e);
        }
    }

    static void destroyRefusesNumbersOfNoEntity() {
        for (int e : Check.beyond(0, 15)) {
            Check.refused("destroy entity " + e, Check.INDEX, w -> w.destroy(e));
        }
    }

    static void destroyRefusesOneThatDoesNotExist() {
        Check.refused("destroy of one that never was", Check.STATE, w -> w.destroy(12));
        WorldDeltas w = Worlds.busy();
        w.destroy(3);
        Check.dueThrow("destroy of a destroyed one", w, Check.STATE, () -> w.destroy(3));
    }

    // Promise 6, entity: "0 1 if it exists or 0 if not, 1 x, 2 y, 3 kind, 4 health, 5 vx, 6 vy (1 to 6: 0 if it does
    // not exist)"

    static void entityReturnsEachValue() {
        WorldDeltas w = new WorldDeltas();
        w.place(0, 11, 22, 3, 44);
        w.setVelocity(0, -2, 3);
        w.place(15, 31, 0, 0, 100);
        w.setVelocity(15, 3, -3);
        dueEntity("entity", w, 0, 1, 11, 22, 3, 44, -2, 3);
        dueEntity("entity", w, 15, 1, 31, 0, 0, 100, 3, -3);
    }

    static void entityReturnsZeroForOneThatDoesNotExist() {
        WorldDeltas w = new WorldDeltas();
        dueEntity("never placed", w, 15, 0, 0, 0, 0, 0, 0, 0);
        w.place(15, 31, 30, 3, 100);
        w.setVelocity(15, 3, -3);
        w.destroy(15);
        dueEntity("destroyed", w, 15, 0, 0, 0, 0, 0, 0, 0);
    }

    static void entityRefusesNumbersOfNoEntity() {
        for (int e : Check.beyond(0, 15)) {
            Check.refused("entity " + e, Check.INDEX, w -> w.entity(e, 0));
        }
    }

    static void entityRefusesWhat() {
        for (int what : Check.beyond(0, 6)) {
            Check.refused("entity what " + what, Check.ARGUMENT, w -> w.entity(3, what));
            Check.refused("entity what " + what + " of none", Check.ARGUMENT, w -> w.entity(15, what));
        }
    }

    static void entityThrowsForTheNumberFirst() {
        Check.refused("number and what", Check.INDEX, w -> w.entity(16, 7));
        Check.refused("number and what", Check.INDEX, w -> w.entity(-1, -1));
    }
}
