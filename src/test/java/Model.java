import java.util.ArrayList;
import java.util.Arrays;
import java.util.Comparator;
import java.util.List;
import java.util.TreeMap;

/**
 * The document once more, told with lists and maps and without any care for room, so that random runs can
 * compare the class with it. It takes valid calls alone.
 */
final class Model {
    static final class Entry {
        int kind, entity, bytes, baseline, mask;
        int[] values;
        int[] leadsTo;
    }

    static final class Packet {
        int number, bytes, sent;
        List<Entry> entries = new ArrayList<>();
    }

    static final class Underway<T> {
        final T what;
        final int arrival;

        Underway(T what, int arrival) {
            this.what = what;
            this.arrival = arrival;
        }
    }

    static final class Client {
        boolean connected;
        int x, y, radius, budget, losePackets, loseAcks;
        int sent, bytes, lost, acksLost, acks, broken, givenUp, entries;
        int[] priority = new int[16];
        int[] baseNumber = new int[16];
        int[][] base = new int[16][];
        List<Packet> flight = new ArrayList<>();
        List<Underway<Packet>> toClient = new ArrayList<>();
        List<Underway<Integer>> toServer = new ArrayList<>();
        List<TreeMap<Integer, int[]>> records = new ArrayList<>();

        Client() {
            for (int i = 0; i < 16; i++) {
                records.add(new TreeMap<>());
            }
        }

        Client twin() {
            Client t = new Client();
            t.connected = connected;
            t.x = x;
            t.y = y;
            t.radius = radius;
            t.budget = budget;
            t.losePackets = losePackets;
            t.loseAcks = loseAcks;
            t.sent = sent;
            t.bytes = bytes;
            t.lost = lost;
            t.acksLost = acksLost;
            t.acks = acks;
            t.broken = broken;
            t.givenUp = givenUp;
            t.entries = entries;
            t.priority = priority.clone();
            t.baseNumber = baseNumber.clone();
            t.base = base.clone();
            t.flight = new ArrayList<>(flight);
            t.toClient = new ArrayList<>(toClient);
            t.toServer = new ArrayList<>(toServer);
            for (int i = 0; i < 16; i++) {
                t.records.set(i, new TreeMap<>(records.get(i)));
            }
            return t;
        }
    }

    int time, delay = 2, interval = 2;
    int[][] states = new int[16][];
    int[][] velocities = new int[16][];
    Client[] clients = {new Client(), new Client(), new Client()};
    List<Model> undo = new ArrayList<>();

    private void save() {
        Model m = new Model();
        m.time = time;
        m.delay = delay;
        m.interval = interval;
        m.states = states.clone();
        m.velocities = velocities.clone();
        for (int c = 0; c < 3; c++) {
            m.clients[c] = clients[c].twin();
        }
        undo.add(m);
        if (undo.size() > 3) {
            undo.remove(0);
        }
    }

    boolean place(int e, int x, int y, int kind, int health) {
        save();
        boolean before = states[e] != null;
        states[e] = new int[] {x, y, kind, health};
        if (!before) {
            velocities[e] = new int[] {0, 0};
        }
        return before;
    }

    int setVelocity(int e, int vx, int vy) {
        save();
        int[] old = velocities[e];
        velocities[e] = new int[] {vx, vy};
        return 10 * (old[0] + 3) + old[1] + 3;
    }

    int setHealth(int e, int health) {
        save();
        int[] old = states[e];
        states[e] = new int[] {old[0], old[1], old[2], health};
        return old[3];
    }

    int destroy(int e) {
        save();
        states[e] = null;
        velocities[e] = null;
        int n = 0;
        for (int[] s : states) {
            n += s == null ? 0 : 1;
        }
        return n;
    }

    int entity(int e, int what) {
        if (states[e] == null) {
            return 0;
        }
        return what == 0 ? 1 : what < 5 ? states[e][what - 1] : velocities[e][what - 5];
    }

    boolean connect(int c, int x, int y, int radius, int budget) {
        save();
        boolean before = clients[c].connected;
        Client n = new Client();
        n.connected = true;
        n.x = x;
        n.y = y;
        n.radius = radius;
        n.budget = budget;
        clients[c] = n;
        return before;
    }

    int look(int c, int x, int y, int radius) {
        save();
        clients[c].x = x;
        clients[c].y = y;
        clients[c].radius = radius;
        int n = 0;
        for (int e = 0; e < 16; e++) {
            n += inArea(clients[c], e) ? 1 : 0;
        }
        return n;
    }

    int disconnect(int c) {
        save();
        int sent = clients[c].sent;
        clients[c] = new Client();
        return sent;
    }

    int setTimes(int delay, int interval) {
        save();
        int old = this.delay;
        this.delay = delay;
        this.interval = interval;
        return old;
    }

    int lose(int c, int packets, int acks) {
        save();
        int old = clients[c].losePackets;
        clients[c].losePackets = packets;
        clients[c].loseAcks = acks;
        return old;
    }

    int tick(int ticks) {
        save();
        for (int i = 0; i < ticks; i++) {
            oneTick();
        }
        return time;
    }

    int undo() {
        Model m = undo.remove(undo.size() - 1);
        time = m.time;
        delay = m.delay;
        interval = m.interval;
        states = m.states;
        velocities = m.velocities;
        clients = m.clients;
        return undo.size();
    }

    private int distance(Client c, int e) {
        return Math.max(Math.abs(states[e][0] - c.x), Math.abs(states[e][1] - c.y));
    }

    private boolean inArea(Client c, int e) {
        return states[e] != null && Math.abs(states[e][0] - c.x) <= c.radius
                && Math.abs(states[e][1] - c.y) <= c.radius;
    }

    private void oneTick() {
        time++;
        for (int e = 0; e < 16; e++) {
            if (states[e] != null) {
                int[] s = states[e].clone();
                int[] v = velocities[e].clone();
                for (int d = 0; d < 2; d++) {
                    s[d] += v[d];
                    if (s[d] < 0) {
                        s[d] = -s[d];
                        v[d] = -v[d];
                    } else if (s[d] > 31) {
                        s[d] = 62 - s[d];
                        v[d] = -v[d];
                    }
                }
                states[e] = s;
                velocities[e] = v;
            }
        }
        for (Client c : clients) {
            arrive(c);
        }
        for (Client c : clients) {
            if (c.connected) {
                serve(c);
            }
        }
    }

    private void arrive(Client c) {
        List<Underway<Packet>> packets = c.toClient;
        c.toClient = new ArrayList<>();
        for (Underway<Packet> u : packets) {
            if (u.arrival != time) {
                c.toClient.add(u);
                continue;
            }
            for (Entry en : u.what.entries) {
                receive(c, u.what.number, en);
            }
            if (c.loseAcks > 0) {
                c.loseAcks--;
                c.acksLost++;
            } else {
                c.toServer.add(new Underway<>(u.what.number, time + delay));
            }
        }
        List<Underway<Integer>> acks = c.toServer;
        c.toServer = new ArrayList<>();
        for (Underway<Integer> u : acks) {
            if (u.arrival != time) {
                c.toServer.add(u);
            } else {
                acknowledge(c, u.what);
            }
        }
    }

    private void receive(Client c, int n, Entry en) {
        TreeMap<Integer, int[]> records = c.records.get(en.entity);
        if (!records.isEmpty() && records.lastKey() >= n) {
            return;
        }
        int[] state = en.values;
        if (en.kind == 2) {
            int[] from = records.get(en.baseline);
            if (from == null) {
                c.broken++;
                return;
            }
            state = from.clone();
            for (int i = 0; i < 4; i++) {
                if ((en.mask >> i & 1) == 1) {
                    state[i] = en.values[i];
                }
            }
        }
        records.put(n, state);
        if (records.size() > 12) {
            records.pollFirstEntry();
        }
    }

    private void acknowledge(Client c, int n) {
        c.acks++;
        boolean flying = c.flight.stream().anyMatch(p -> p.number == n);
        if (!flying) {
            return;
        }
        for (Packet p : c.flight) {
            if (p.number == n) {
                for (Entry en : p.entries) {
                    if (n > c.baseNumber[en.entity]) {
                        c.baseNumber[en.entity] = n;
                        c.base[en.entity] = en.leadsTo;
                    }
                }
            }
        }
        c.flight.removeIf(p -> p.number <= n);
    }

    private void serve(Client c) {
        int before = c.flight.size();
        c.flight.removeIf(p -> time - p.sent >= 4 * delay + interval);
        c.givenUp += before - c.flight.size();
        for (int e = 0; e < 16; e++) {
            if (inArea(c, e)) {
                if (Arrays.equals(states[e], c.base[e])) {
                    c.priority[e] = 0;
                } else {
                    c.priority[e] += new int[] {1, 2, 4, 8}[states[e][2]] * (32 - distance(c, e));
                }
            } else {
                c.priority[e] = c.base[e] != null ? c.priority[e] + 100 : 0;
            }
        }
        if (time % interval == 0 && c.flight.size() < 12) {
            send(c);
        }
    }

    private void send(Client c) {
        List<Integer> order = new ArrayList<>();
        for (int e = 0; e < 16; e++) {
            if (c.priority[e] > 0) {
                order.add(e);
            }
        }
        order.sort(Comparator.comparingInt((Integer e) -> -c.priority[e]).thenComparingInt(e -> e));
        Packet p = new Packet();
        p.number = c.sent + 1;
        p.bytes = 4;
        p.sent = time;
        for (int e : order) {
            Entry en = entryFor(c, e);
            if (p.bytes + en.bytes <= c.budget) {
                p.bytes += en.bytes;
                p.entries.add(en);
                c.priority[e] = 0;
            }
        }
        if (p.entries.isEmpty()) {
            return;
        }
        c.sent++;
        c.bytes += p.bytes;
        c.entries += p.entries.size();
        c.flight.add(p);
        if (c.losePackets > 0) {
            c.losePackets--;
            c.lost++;
        } else {
            c.toClient.add(new Underway<>(p, time + delay));
        }
    }

    /** Null if there would be none. */
    private Entry entryFor(Client c, int e) {
        Entry en = new Entry();
        en.entity = e;
        if (!inArea(c, e)) {
            if (c.base[e] == null) {
                return null;
            }
            en.kind = 0;
            en.bytes = 2;
            return en;
        }
        en.leadsTo = states[e];
        if (c.base[e] == null) {
            en.kind = 1;
            en.bytes = 6;
            en.mask = 15;
            en.values = states[e];
            return en;
        }
        en.kind = 2;
        en.bytes = 2;
        en.baseline = c.baseNumber[e];
        en.values = new int[] {-9, -9, -9, -9};
        for (int i = 0; i < 4; i++) {
            if (states[e][i] != c.base[e][i]) {
                en.bytes++;
                en.mask |= 1 << i;
                en.values[i] = states[e][i];
            }
        }
        return en.mask == 0 ? null : en;
    }

    int copy(int c, int e, int what) {
        TreeMap<Integer, int[]> records = clients[c].records.get(e);
        if (what == 6) {
            return records.size();
        }
        if (records.isEmpty()) {
            return 0;
        }
        if (what == 5) {
            return records.lastKey();
        }
        int[] state = records.lastEntry().getValue();
        return state == null ? 0 : what == 0 ? 1 : state[what - 1];
    }

    int kept(int client, int e, int what) {
        Client c = clients[client];
        int[] base = c.base[e];
        switch (what) {
            case 0: return c.priority[e];
            case 1: return c.baseNumber[e];
            case 2: return base == null ? 0 : 1;
            case 7: return inArea(c, e) ? 1 : 0;
            case 8: return states[e] == null ? -1 : distance(c, e);
            default: return base == null ? 0 : base[what - 3];
        }
    }

    int count(int client, int what) {
        Client c = clients[client];
        return new int[] {c.sent, c.bytes, c.lost, c.acksLost, c.acks, c.broken, c.flight.size(), c.givenUp,
            c.entries}[what];
    }

    int stale(int client) {
        int n = 0;
        for (int e = 0; e < 16; e++) {
            if (!inArea(clients[client], e)) {
                n += copy(client, e, 0);
            } else if (copy(client, e, 0) == 0) {
                n++;
            } else {
                boolean same = true;
                for (int i = 0; i < 4; i++) {
                    same &= copy(client, e, i + 1) == states[e][i];
                }
                n += same ? 0 : 1;
            }
        }
        return n;
    }

    int packet(int client, int index, int what) {
        Packet p = clients[client].flight.get(index);
        return new int[] {p.number, p.bytes, p.entries.size(), time - p.sent}[what];
    }

    int entry(int client, int index, int entry, int what) {
        Entry en = clients[client].flight.get(index).entries.get(entry);
        return new int[] {en.kind, en.entity, en.bytes, en.baseline, en.mask}[what];
    }

    int price(int client, int e) {
        Entry en = entryFor(clients[client], e);
        return en == null ? 0 : en.bytes;
    }

    long digest() {
        List<Integer> v = new ArrayList<>(Arrays.asList(undo.size(), time, delay, interval));
        for (int e = 0; e < 16; e++) {
            for (int what = 0; what < 7; what++) {
                v.add(entity(e, what));
            }
        }
        for (int i = 0; i < 3; i++) {
            addClient(v, i);
        }
        long h = 18582;
        for (int value : v) {
            h = 31 * h + value;
        }
        return h;
    }

    private void addClient(List<Integer> v, int i) {
        Client c = clients[i];
        v.add(c.connected ? 1 : 0);
        for (int what = 0; what < 9; what++) {
            v.add(count(i, what));
        }
        if (c.connected) {
            v.addAll(Arrays.asList(c.x, c.y, c.radius, c.budget, c.losePackets, c.loseAcks, stale(i)));
        }
        for (int e = 0; e < 16; e++) {
            for (int what = 0; what < 7; what++) {
                v.add(copy(i, e, what));
            }
            for (int what = 0; what < 9 && c.connected; what++) {
                v.add(kept(i, e, what));
            }
            if (c.connected) {
                v.add(price(i, e));
            }
        }
        for (int p = 0; p < c.flight.size(); p++) {
            for (int what = 0; what < 4; what++) {
                v.add(packet(i, p, what));
            }
            for (int n = 0; n < c.flight.get(p).entries.size(); n++) {
                for (int what = 0; what < 5; what++) {
                    v.add(entry(i, p, n, what));
                }
            }
        }
    }
}
