/** THE WORLD in the description: a test for each sentence that names a boundary, in their order. */
final class DescriptionWorldTest {
    public static void main(String[] args) {
        Check.runAll(DescriptionWorldTest.class);
    }

    // "The world is a square of 32 by 32 positions; x and y are from 0 to 31."

    static void everyPositionIsInTheWorld() {
        WorldDeltas w = new WorldDeltas();
        for (int at = 0; at <= 31; at++) {
            w.place(0, at, 31 - at, 0, 0);
            Check.due("x", w.entity(0, 1), at);
            Check.due("y", w.entity(0, 2), 31 - at);
        }
    }

    static void noPositionBeyondItIs() {
        WorldDeltas w = new WorldDeltas();
        Check.dueThrow("x 32", w, Check.ARGUMENT, () -> w.place(0, 32, 31, 0, 0));
        Check.dueThrow("x -1", w, Check.ARGUMENT, () -> w.place(0, -1, 0, 0, 0));
        Check.dueThrow("y 32", w, Check.ARGUMENT, () -> w.place(0, 31, 32, 0, 0));
        Check.dueThrow("y -1", w, Check.ARGUMENT, () -> w.place(0, 0, -1, 0, 0));
    }

    // "There are 16 entities, numbered from 0, none of which exists at first."

    static void thereAreSixteenEntities() {
        WorldDeltas w = new WorldDeltas();
        for (int e = 0; e < 16; e++) {
            Check.due("place " + e, w.place(e, e, 1, 0, 0), false);
        }
        for (int e = 0; e < 16; e++) {
            Check.due("x of " + e, w.entity(e, 1), e);
        }
        Check.due("fifteen are left", w.destroy(15), 15);
        Check.due("fourteen are left", w.destroy(0), 14);
        Check.dueThrow("there is no 16", w, Check.INDEX, () -> w.place(16, 1, 1, 0, 0));
        Check.dueThrow("there is no -1", w, Check.INDEX, () -> w.place(-1, 1, 1, 0, 0));
    }

    static void noEntityExistsAtFirst() {
        WorldDeltas w = new WorldDeltas();
        for (int e = 0; e < 16; e++) {
            Check.due("exists " + e, w.entity(e, 0), 0);
        }
        w.place(7, 1, 1, 0, 0);
        Check.due("it was the only one", w.destroy(7), 0);
    }

    // "An entity that exists has a state, which consists of x, y, a kind (0 to 3) and a health (0 to 100), .."

    static void everyKindAndHealthIsKept() {
        WorldDeltas w = new WorldDeltas();
        for (int health = 0; health <= 100; health++) {
            w.place(3, 31, 31, health % 4, health);
            Check.due("kind", w.entity(3, 3), health % 4);
            Check.due("health", w.entity(3, 4), health);
        }
    }

    // ".. and a velocity (two numbers from -3 to 3)."

    static void everyVelocityIsKept() {
        WorldDeltas w = new WorldDeltas();
        w.place(3, 5, 5, 0, 0);
        for (int vx = -3; vx <= 3; vx++) {
            for (int vy = -3; vy <= 3; vy++) {
                w.setVelocity(3, vx, vy);
                Check.due("vx", w.entity(3, 5), vx);
                Check.due("vy", w.entity(3, 6), vy);
            }
        }
    }

    // "The weights of the kinds 0 to 3 are 1, 2, 4 and 8."

    static void weightsOfTheKinds() {
        WorldDeltas w = new WorldDeltas();
        w.setTimes(2, 10);
        for (int kind = 0; kind < 4; kind++) {
            w.place(kind, 31, 31, kind, 0);
        }
        w.connect(0, 0, 0, 31, 12);
        w.tick(1);
        int[] weights = {1, 2, 4, 8};
        for (int kind = 0; kind < 4; kind++) {
            Check.due("weight of " + kind, w.kept(0, kind, 0), weights[kind]);
        }
    }

    // "To move in one direction means: the coordinate increases by the velocity there; .."

    /** One tick of an entity with this x, y, vx and vy; then it must have the others. */
    private static void dueMove(int[] before, int... after) {
        WorldDeltas w = new WorldDeltas();
        w.place(5, before[0], before[1], 3, 77);
        w.setVelocity(5, before[2], before[3]);
        w.tick(1);
        String from = "from (" + before[0] + ", " + before[1] + ") by (" + before[2] + ", " + before[3] + "): ";
        Check.due(from + "x", w.entity(5, 1), after[0]);
        Check.due(from + "y", w.entity(5, 2), after[1]);
        Check.due(from + "kind", w.entity(5, 3), 3);
        Check.due(from + "health", w.entity(5, 4), 77);
        Check.due(from + "vx", w.entity(5, 5), after[2]);
        Check.due(from + "vy", w.entity(5, 6), after[3]);
    }

    private static int[] from(int x, int y, int vx, int vy) {
        return new int[] {x, y, vx, vy};
    }

    static void coordinatesIncreaseByTheVelocity() {
        dueMove(from(10, 20, 3, -3), 13, 17, 3, -3);
        dueMove(from(10, 20, -1, 2), 9, 22, -1, 2);
        dueMove(from(10, 20, 0, 0), 10, 20, 0, 0);
        dueMove(from(0, 31, 0, 0), 0, 31, 0, 0);
    }

    // ".. if it is less than 0 then, it becomes its negative, and the velocity its negative; .."

    static void zeroIsNotLessThanZero() {
        dueMove(from(3, 10, -3, 0), 0, 10, -3, 0);
        dueMove(from(1, 10, -1, 1), 0, 11, -1, 1);
        dueMove(from(10, 3, 0, -3), 10, 0, 0, -3);
        dueMove(from(10, 1, 1, -1), 11, 0, 1, -1);
    }

    static void lessThanZeroBecomesTheNegative() {
        dueMove(from(0, 10, -1, 0), 1, 10, 1, 0);
        dueMove(from(0, 10, -3, -2), 3, 8, 3, -2);
        dueMove(from(2, 10, -3, 0), 1, 10, 3, 0);
        dueMove(from(10, 0, 0, -1), 10, 1, 0, 1);
        dueMove(from(10, 0, -2, -3), 8, 3, -2, 3);
        dueMove(from(10, 1, 0, -3), 10, 2, 0, 3);
    }

    // ".. if it is greater than 31, it becomes 62 minus itself, and the velocity its negative."

    static void thirtyOneIsNotGreaterThanThirtyOne() {
        dueMove(from(28, 10, 3, 0), 31, 10, 3, 0);
        dueMove(from(30, 10, 1, 1), 31, 11, 1, 1);
        dueMove(from(10, 28, 0, 3), 10, 31, 0, 3);
        dueMove(from(10, 30, 1, 1), 11, 31, 1, 1);
    }

    static void greaterThanThirtyOneIsReflected() {
        dueMove(from(31, 10, 1, 0), 30, 10, -1, 0);
        dueMove(from(31, 10, 3, 2), 28, 12, -3, 2);
        dueMove(from(29, 10, 3, 0), 30, 10, -3, 0);
        dueMove(from(10, 31, 0, 1), 10, 30, 0, -1);
        dueMove(from(10, 31, 2, 3), 12, 28, 2, -3);
        dueMove(from(10, 30, 0, 3), 10, 29, 0, -3);
    }

    static void bothDirectionsAreReflectedAtACorner() {
        dueMove(from(0, 0, -2, -3), 2, 3, 2, 3);
        dueMove(from(31, 31, 3, 1), 28, 30, -3, -1);
        dueMove(from(0, 31, -1, 3), 1, 28, 1, -3);
    }

    static void afterAReflectionItGoesOnTheOtherWay() {
        WorldDeltas w = new WorldDeltas();
        w.place(0, 1, 30, 0, 0);
        w.setVelocity(0, -3, 3);
        w.tick(2);
        Check.due("x", w.entity(0, 1), 5);
        Check.due("y", w.entity(0, 2), 26);
        w.tick(9);
        Check.due("x on the other side", w.entity(0, 1), 30);
        Check.due("y on the other side", w.entity(0, 2), 1);
        Check.due("vx", w.entity(0, 5), -3);
        Check.due("vy", w.entity(0, 6), 3);
    }
}
