import java.util.Random;

/** Long runs of random calls, valid and wrong ones: every answer and every state is compared with the model's. */
final class RandomRunsTest {
    private static final int RUNS = 400;
    private static final int CALLS = 512;

    private final Random random;
    private final String run;
    private final WorldDeltas world = new WorldDeltas();
    private final Model model = new Model();
    private int used = 0;

    private RandomRunsTest(int seed) {
        random = new Random(seed);
        run = "seed " + seed;
    }

    public static void main(String[] args) {
        long[] seen = new long[9];
        for (int seed = 0; seed < RUNS; seed++) {
            new RandomRunsTest(seed).go(seen);
        }
        for (int what = 0; what < 9; what++) {
            if (seen[what] == 0) {
                Check.fail("no run ever had a count of " + what);
            }
        }
        Check.end();
    }

    private void go(long[] seen) {
        int style = random.nextInt(4);
        // A step makes four calls at most: itself, and the digest once or, where it is refused, three times.
        while (used + 4 <= CALLS) {
            String call = run + " call " + used;
            step(call, style);
            Check.due(call + " digest", world.digest(), model.digest());
            used += 2;
            for (int c = 0; c < 3; c++) {
                for (int what = 0; what < 9; what++) {
                    seen[what] += model.count(c, what);
                }
            }
        }
    }

    private int pick(int low, int high) {
        return low + random.nextInt(high - low + 1);
    }

    private int usually(int low, int high) {
        return random.nextInt(40) == 0 ? (random.nextBoolean() ? low - 1 : high + 1) : pick(low, high);
    }

    private static boolean in(int v, int low, int high) {
        return v >= low && v <= high;
    }

    private void step(String call, int style) {
        int kind = pick(0, 99);
        if (kind < 12) {
            place(call);
        } else if (kind < 24) {
            setVelocity(call);
        } else if (kind < 30) {
            setHealth(call);
        } else if (kind < 33) {
            destroy(call);
        } else if (kind < 37) {
            connect(call);
        } else if (kind < 41) {
            look(call);
        } else if (kind < 42) {
            disconnect(call);
        } else if (kind < (style == 0 ? 60 : 46)) {
            setTimes(call);
        } else if (kind < 65) {
            lose(call, style);
        } else if (kind < 94) {
            tick(call, style);
        } else {
            undo(call);
        }
    }

    private void expect(String call, String exception, Check.Call wrong) {
        used += 2;
        Check.dueThrow(call, world, exception, wrong);
    }

    private void place(String call) {
        int e = usually(0, 15), x = usually(0, 31), y = usually(0, 31), k = usually(0, 3), h = usually(0, 100);
        String text = call + " place(" + e + ", " + x + ", " + y + ", " + k + ", " + h + ")";
        if (!in(e, 0, 15)) {
            expect(text, Check.INDEX, () -> world.place(e, x, y, k, h));
        } else if (!in(x, 0, 31) || !in(y, 0, 31) || !in(k, 0, 3) || !in(h, 0, 100)) {
            expect(text, Check.ARGUMENT, () -> world.place(e, x, y, k, h));
        } else {
            Check.due(text, world.place(e, x, y, k, h), model.place(e, x, y, k, h));
        }
    }

    private void setVelocity(String call) {
        int e = usually(0, 15), vx = usually(-3, 3), vy = usually(-3, 3);
        String text = call + " setVelocity(" + e + ", " + vx + ", " + vy + ")";
        if (!in(e, 0, 15)) {
            expect(text, Check.INDEX, () -> world.setVelocity(e, vx, vy));
        } else if (!in(vx, -3, 3) || !in(vy, -3, 3)) {
            expect(text, Check.ARGUMENT, () -> world.setVelocity(e, vx, vy));
        } else if (model.states[e] == null) {
            expect(text, Check.STATE, () -> world.setVelocity(e, vx, vy));
        } else {
            Check.due(text, world.setVelocity(e, vx, vy), model.setVelocity(e, vx, vy));
        }
    }

    private void setHealth(String call) {
        int e = usually(0, 15), h = usually(0, 100);
        String text = call + " setHealth(" + e + ", " + h + ")";
        if (!in(e, 0, 15)) {
            expect(text, Check.INDEX, () -> world.setHealth(e, h));
        } else if (!in(h, 0, 100)) {
            expect(text, Check.ARGUMENT, () -> world.setHealth(e, h));
        } else if (model.states[e] == null) {
            expect(text, Check.STATE, () -> world.setHealth(e, h));
        } else {
            Check.due(text, world.setHealth(e, h), model.setHealth(e, h));
        }
    }

    private void destroy(String call) {
        int e = usually(0, 15);
        String text = call + " destroy(" + e + ")";
        if (!in(e, 0, 15)) {
            expect(text, Check.INDEX, () -> world.destroy(e));
        } else if (model.states[e] == null) {
            expect(text, Check.STATE, () -> world.destroy(e));
        } else {
            Check.due(text, world.destroy(e), model.destroy(e));
        }
    }

    private void connect(String call) {
        int c = usually(0, 2), x = usually(0, 31), y = usually(0, 31), r = usually(1, 31), b = usually(12, 64);
        String text = call + " connect(" + c + ", " + x + ", " + y + ", " + r + ", " + b + ")";
        if (!in(c, 0, 2)) {
            expect(text, Check.INDEX, () -> world.connect(c, x, y, r, b));
        } else if (!in(x, 0, 31) || !in(y, 0, 31) || !in(r, 1, 31) || !in(b, 12, 64)) {
            expect(text, Check.ARGUMENT, () -> world.connect(c, x, y, r, b));
        } else if (!model.clients[c].connected || random.nextInt(3) == 0) {
            Check.due(text, world.connect(c, x, y, r, b), model.connect(c, x, y, r, b));
        }
    }

    private void look(String call) {
        int c = usually(0, 2), x = usually(0, 31), y = usually(0, 31), r = usually(1, 31);
        String text = call + " look(" + c + ", " + x + ", " + y + ", " + r + ")";
        if (!in(c, 0, 2)) {
            expect(text, Check.INDEX, () -> world.look(c, x, y, r));
        } else if (!in(x, 0, 31) || !in(y, 0, 31) || !in(r, 1, 31)) {
            expect(text, Check.ARGUMENT, () -> world.look(c, x, y, r));
        } else if (!model.clients[c].connected) {
            expect(text, Check.STATE, () -> world.look(c, x, y, r));
        } else {
            Check.due(text, world.look(c, x, y, r), model.look(c, x, y, r));
        }
    }

    private void disconnect(String call) {
        int c = usually(0, 2);
        String text = call + " disconnect(" + c + ")";
        if (!in(c, 0, 2)) {
            expect(text, Check.INDEX, () -> world.disconnect(c));
        } else if (!model.clients[c].connected) {
            expect(text, Check.STATE, () -> world.disconnect(c));
        } else {
            Check.due(text, world.disconnect(c), model.disconnect(c));
        }
    }

    private void setTimes(String call) {
        int d = usually(1, 10), i = random.nextInt(3) == 0 ? usually(1, 10) : 1;
        String text = call + " setTimes(" + d + ", " + i + ")";
        if (!in(d, 1, 10) || !in(i, 1, 10)) {
            expect(text, Check.ARGUMENT, () -> world.setTimes(d, i));
        } else {
            Check.due(text, world.setTimes(d, i), model.setTimes(d, i));
        }
    }

    private void lose(String call, int style) {
        int most = style == 1 ? 50 : style == 2 ? 6 : 2;
        int c = usually(0, 2), p = random.nextBoolean() ? 0 : usually(0, most), a = usually(0, 50) % (most + 2);
        String text = call + " lose(" + c + ", " + p + ", " + a + ")";
        if (!in(c, 0, 2)) {
            expect(text, Check.INDEX, () -> world.lose(c, p, a));
        } else if (!in(p, 0, 50) || !in(a, 0, 50)) {
            expect(text, Check.ARGUMENT, () -> world.lose(c, p, a));
        } else if (!model.clients[c].connected) {
            expect(text, Check.STATE, () -> world.lose(c, p, a));
        } else {
            Check.due(text, world.lose(c, p, a), model.lose(c, p, a));
        }
    }

    private void tick(String call, int style) {
        int n = random.nextInt(style == 3 ? 4 : 40) == 0 ? usually(1, 50) : pick(1, 5);
        String text = call + " tick(" + n + ")";
        if (!in(n, 1, 50)) {
            expect(text, Check.ARGUMENT, () -> world.tick(n));
        } else {
            Check.due(text, world.tick(n), model.tick(n));
        }
    }

    private void undo(String call) {
        if (model.undo.isEmpty()) {
            expect(call + " undo()", Check.STATE, () -> world.undo());
        } else {
            Check.due(call + " undo()", world.undo(), model.undo());
        }
    }
}
