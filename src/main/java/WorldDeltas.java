/**
 * A simulator of how a game server keeps its clients up to date: moving entities, clients with areas of
 * interest, differences to acknowledged states, priorities, packets of limited size that are delayed or
 * lost, and the copies that the clients keep.
 *
 * All rows are made with the object and used again, so that no call makes new ones.
 */
public final class WorldDeltas {
    public static final int NONE = -1;
    public static final int REMOVAL = 0, CREATION = 1, DIFFERENCE = 2;

    private static final int ENTITIES = 16;
    private static final int CLIENTS = 3;
    private static final int LAST_POSITION = 31;
    private static final int LAST_KIND = 3;
    private static final int FULL_HEALTH = 100;
    private static final int TOP_SPEED = 3;
    private static final int LARGEST_RADIUS = 31;
    private static final int SMALLEST_BUDGET = 12;
    private static final int LARGEST_BUDGET = 64;
    private static final int LONGEST_TIME = 10;
    private static final int MOST_LOSSES = 50;
    private static final int MOST_TICKS = 50;

    private static final int LAST_ENTITY_VALUE = 6;
    private static final int LAST_COPY_VALUE = 6;
    private static final int LAST_KEPT_VALUE = 8;
    private static final int LAST_COUNT = 8;
    private static final int LAST_PACKET_VALUE = 3;
    private static final int LAST_ENTRY_VALUE = 4;

    private static final int NO_STATE = -1;
    private static final long DIGEST_START = 18582L;

    private final World world;
    private final UndoStack undoStack;

    public WorldDeltas() {
        world = new World();
        undoStack = new UndoStack();
    }

    // ---- the world

    public boolean place(int entity, int x, int y, int kind, int health)
            throws IndexOutOfBoundsException, IllegalArgumentException {
        checkEntity(entity);
        checkRange(x, 0, LAST_POSITION);
        checkRange(y, 0, LAST_POSITION);
        checkRange(kind, 0, LAST_KIND);
        checkRange(health, 0, FULL_HEALTH);
        undoStack.push(world);
        return world.entities.put(entity, State.of(x, y, kind, health));
    }

    public int setVelocity(int entity, int vx, int vy)
            throws IndexOutOfBoundsException, IllegalArgumentException, IllegalStateException {
        checkEntity(entity);
        checkRange(vx, -TOP_SPEED, TOP_SPEED);
        checkRange(vy, -TOP_SPEED, TOP_SPEED);
        checkExists(entity);
        undoStack.push(world);
        return world.entities.changeVelocity(entity, vx, vy);
    }

    public int setHealth(int entity, int health)
            throws IndexOutOfBoundsException, IllegalArgumentException, IllegalStateException {
        checkEntity(entity);
        checkRange(health, 0, FULL_HEALTH);
        checkExists(entity);
        undoStack.push(world);
        return world.entities.changeHealth(entity, health);
    }

    public int destroy(int entity) throws IndexOutOfBoundsException, IllegalStateException {
        checkEntity(entity);
        checkExists(entity);
        undoStack.push(world);
        return world.entities.remove(entity);
    }

    public int entity(int entity, int what) throws IndexOutOfBoundsException, IllegalArgumentException {
        checkEntity(entity);
        checkRange(what, 0, LAST_ENTITY_VALUE);
        return world.entities.value(entity, what);
    }

    // ---- clients and links

    public boolean connect(int client, int x, int y, int radius, int budget)
            throws IndexOutOfBoundsException, IllegalArgumentException {
        Client target = clientOf(client);
        checkRange(x, 0, LAST_POSITION);
        checkRange(y, 0, LAST_POSITION);
        checkRange(radius, 1, LARGEST_RADIUS);
        checkRange(budget, SMALLEST_BUDGET, LARGEST_BUDGET);
        undoStack.push(world);
        boolean before = target.connected;
        target.reset();
        target.connected = true;
        target.turnTo(x, y, radius);
        target.budget = budget;
        return before;
    }

    public int look(int client, int x, int y, int radius)
            throws IndexOutOfBoundsException, IllegalArgumentException, IllegalStateException {
        Client target = clientOf(client);
        checkRange(x, 0, LAST_POSITION);
        checkRange(y, 0, LAST_POSITION);
        checkRange(radius, 1, LARGEST_RADIUS);
        checkConnected(target);
        undoStack.push(world);
        target.turnTo(x, y, radius);
        return target.entitiesInArea(world.entities);
    }

    public int disconnect(int client) throws IndexOutOfBoundsException, IllegalStateException {
        Client target = clientOf(client);
        checkConnected(target);
        undoStack.push(world);
        int sent = target.counts[Client.SENT];
        target.reset();
        return sent;
    }

    public int setTimes(int delay, int interval) throws IllegalArgumentException {
        checkRange(delay, 1, LONGEST_TIME);
        checkRange(interval, 1, LONGEST_TIME);
        undoStack.push(world);
        int before = world.delay;
        world.delay = delay;
        world.interval = interval;
        return before;
    }

    public int lose(int client, int packets, int acknowledgements)
            throws IndexOutOfBoundsException, IllegalArgumentException, IllegalStateException {
        Client target = clientOf(client);
        checkRange(packets, 0, MOST_LOSSES);
        checkRange(acknowledgements, 0, MOST_LOSSES);
        checkConnected(target);
        undoStack.push(world);
        int before = target.packetsToLose;
        target.packetsToLose = packets;
        target.acksToLose = acknowledgements;
        return before;
    }

    // ---- time and values

    public int tick(int ticks) throws IllegalArgumentException {
        checkRange(ticks, 1, MOST_TICKS);
        undoStack.push(world);
        for (int i = 0; i < ticks; i++) {
            world.pass();
        }
        return world.time;
    }

    public int time() {
        return world.time;
    }

    public int copy(int client, int entity, int what) throws IndexOutOfBoundsException, IllegalArgumentException {
        Client target = clientOf(client);
        checkEntity(entity);
        checkRange(what, 0, LAST_COPY_VALUE);
        return target.records.value(entity, what);
    }

    public int kept(int client, int entity, int what)
            throws IndexOutOfBoundsException, IllegalArgumentException, IllegalStateException {
        Client target = clientOf(client);
        checkEntity(entity);
        checkRange(what, 0, LAST_KEPT_VALUE);
        checkConnected(target);
        return target.keptValue(world.entities, entity, what);
    }

    public int count(int client, int what) throws IndexOutOfBoundsException, IllegalArgumentException {
        Client target = clientOf(client);
        checkRange(what, 0, LAST_COUNT);
        return target.countValue(what);
    }

    public int stale(int client) throws IndexOutOfBoundsException, IllegalStateException {
        Client target = clientOf(client);
        checkConnected(target);
        return target.staleCopies(world.entities);
    }

    public int packet(int client, int index, int what) throws IndexOutOfBoundsException, IllegalArgumentException {
        Packet found = packetOf(clientOf(client), index);
        checkRange(what, 0, LAST_PACKET_VALUE);
        return found.value(what, world.time);
    }

    public int entry(int client, int index, int entry, int what)
            throws IndexOutOfBoundsException, IllegalArgumentException {
        Packet found = packetOf(clientOf(client), index);
        checkRange(entry, 0, found.entries - 1);
        checkRange(what, 0, LAST_ENTRY_VALUE);
        return found.entryValue(entry, what);
    }

    public int price(int client, int entity) throws IndexOutOfBoundsException, IllegalStateException {
        Client target = clientOf(client);
        checkEntity(entity);
        checkConnected(target);
        return target.entryBytes(world.entities, entity);
    }

    // ---- undo and checksum

    public int undo() throws IllegalStateException {
        if (undoStack.size == 0) {
            throw new IllegalStateException("the undo stack is empty");
        }
        undoStack.popInto(world);
        return undoStack.size;
    }

    public long digest() {
        long h = DIGEST_START;
        h = 31 * h + undoStack.size;
        h = 31 * h + world.time;
        h = 31 * h + world.delay;
        h = 31 * h + world.interval;
        for (int e = 0; e < ENTITIES; e++) {
            for (int what = 0; what <= LAST_ENTITY_VALUE; what++) {
                h = 31 * h + world.entities.value(e, what);
            }
        }
        for (int c = 0; c < CLIENTS; c++) {
            h = hashClient(h, world.clients[c]);
        }
        return h;
    }

    private long hashClient(long start, Client client) {
        long h = 31 * start + (client.connected ? 1 : 0);
        for (int what = 0; what <= LAST_COUNT; what++) {
            h = 31 * h + client.countValue(what);
        }
        if (client.connected) {
            h = 31 * h + client.centerX;
            h = 31 * h + client.centerY;
            h = 31 * h + client.radius;
            h = 31 * h + client.budget;
            h = 31 * h + client.packetsToLose;
            h = 31 * h + client.acksToLose;
            h = 31 * h + client.staleCopies(world.entities);
        }
        for (int e = 0; e < ENTITIES; e++) {
            h = hashClientEntity(h, client, e);
        }
        for (int i = 0; i < client.inFlight.size; i++) {
            h = hashPacket(h, client.inFlight.slots[i]);
        }
        return h;
    }

    private long hashClientEntity(long start, Client client, int e) {
        long h = start;
        for (int what = 0; what <= LAST_COPY_VALUE; what++) {
            h = 31 * h + client.records.value(e, what);
        }
        if (client.connected) {
            for (int what = 0; what <= LAST_KEPT_VALUE; what++) {
                h = 31 * h + client.keptValue(world.entities, e, what);
            }
            h = 31 * h + client.entryBytes(world.entities, e);
        }
        return h;
    }

    private long hashPacket(long start, Packet packet) {
        long h = start;
        for (int what = 0; what <= LAST_PACKET_VALUE; what++) {
            h = 31 * h + packet.value(what, world.time);
        }
        for (int i = 0; i < packet.entries; i++) {
            for (int what = 0; what <= LAST_ENTRY_VALUE; what++) {
                h = 31 * h + packet.entryValue(i, what);
            }
        }
        return h;
    }

    // ---- what the calls ask of their arguments

    private static void checkEntity(int entity) {
        if (entity < 0 || entity >= ENTITIES) {
            throw new IndexOutOfBoundsException("no such number of an entity");
        }
    }

    private static void checkRange(int value, int low, int high) {
        if (value < low || value > high) {
            throw new IllegalArgumentException("an argument is out of range");
        }
    }

    private void checkExists(int entity) {
        if (!world.entities.exists(entity)) {
            throw new IllegalStateException("the entity does not exist");
        }
    }

    private Client clientOf(int client) {
        if (client < 0 || client >= CLIENTS) {
            throw new IndexOutOfBoundsException("no such client");
        }
        return world.clients[client];
    }

    private static void checkConnected(Client client) {
        if (!client.connected) {
            throw new IllegalStateException("the client is not connected");
        }
    }

    private static Packet packetOf(Client client, int index) {
        if (index < 0 || index >= client.inFlight.size) {
            throw new IllegalArgumentException("no such packet");
        }
        return client.inFlight.slots[index];
    }

    /** The state of an entity in one number, so that two states are equal where their numbers are. */
    private static final class State {
        static final int X = 0, Y = 1, KIND = 2, HEALTH = 3, PARTS = 4;
        static final int ALL_PARTS = 15;
        private static final int[] SHIFTS = {0, 5, 10, 12};
        private static final int[] MASKS = {31, 31, 3, 127};

        static int of(int x, int y, int kind, int health) {
            return x << SHIFTS[X] | y << SHIFTS[Y] | kind << SHIFTS[KIND] | health << SHIFTS[HEALTH];
        }

        /** One of the parts X to HEALTH; 0 without a state. */
        static int part(int state, int place) {
            if (state == NO_STATE || place < 0 || place >= PARTS) {
                return 0;
            }
            return state >> SHIFTS[place] & MASKS[place];
        }

        static int maskOfDifferences(int from, int to) {
            int mask = 0;
            for (int i = 0; i < PARTS; i++) {
                if (part(from, i) != part(to, i)) {
                    mask |= 1 << i;
                }
            }
            return mask;
        }

        static int withParts(int base, int values, int mask) {
            int state = 0;
            for (int i = 0; i < PARTS; i++) {
                int source = (mask & 1 << i) != 0 ? values : base;
                state |= part(source, i) << SHIFTS[i];
            }
            return state;
        }
    }

    /** The entities of the world, with their states and velocities. */
    private static final class Entities {
        final int[] state = new int[ENTITIES];
        final int[] vx = new int[ENTITIES];
        final int[] vy = new int[ENTITIES];

        Entities() {
            for (int e = 0; e < ENTITIES; e++) {
                state[e] = NO_STATE;
            }
        }

        void copyFrom(Entities other) {
            System.arraycopy(other.state, 0, state, 0, ENTITIES);
            System.arraycopy(other.vx, 0, vx, 0, ENTITIES);
            System.arraycopy(other.vy, 0, vy, 0, ENTITIES);
        }

        boolean exists(int e) {
            return state[e] != NO_STATE;
        }

        boolean put(int e, int newState) {
            boolean before = exists(e);
            state[e] = newState;
            return before;
        }

        int changeVelocity(int e, int newVx, int newVy) {
            int before = 10 * (vx[e] + TOP_SPEED) + (vy[e] + TOP_SPEED);
            vx[e] = newVx;
            vy[e] = newVy;
            return before;
        }

        int changeHealth(int e, int health) {
            int old = state[e];
            state[e] = State.of(State.part(old, State.X), State.part(old, State.Y), State.part(old, State.KIND), health);
            return State.part(old, State.HEALTH);
        }

        int remove(int e) {
            state[e] = NO_STATE;
            // A number that is placed again begins with the velocity 0.
            vx[e] = 0;
            vy[e] = 0;
            int left = 0;
            for (int i = 0; i < ENTITIES; i++) {
                left += exists(i) ? 1 : 0;
            }
            return left;
        }

        int value(int e, int what) {
            switch (what) {
                case 0:
                    return exists(e) ? 1 : 0;
                case 5:
                    return vx[e];
                case 6:
                    return vy[e];
                default:
                    return State.part(state[e], what - 1);
            }
        }

        void move() {
            for (int e = 0; e < ENTITIES; e++) {
                if (exists(e)) {
                    moveOne(e);
                }
            }
        }

        private void moveOne(int e) {
            int old = state[e];
            int x = State.part(old, State.X) + vx[e];
            int y = State.part(old, State.Y) + vy[e];
            if (isOutside(x)) {
                x = reflected(x);
                vx[e] = -vx[e];
            }
            if (isOutside(y)) {
                y = reflected(y);
                vy[e] = -vy[e];
            }
            state[e] = State.of(x, y, State.part(old, State.KIND), State.part(old, State.HEALTH));
        }

        private static boolean isOutside(int position) {
            return position < 0 || position > LAST_POSITION;
        }

        private static int reflected(int position) {
            return position < 0 ? -position : 2 * LAST_POSITION - position;
        }
    }

    /** A packet with its entries: their rows are as long as the most entries that a packet can have. */
    private static final class Packet {
        int number;
        int bytes;
        int entries;
        int sentAt;
        int arrivesAt;
        final int[] kind = new int[ENTITIES];
        final int[] entity = new int[ENTITIES];
        final int[] baseline = new int[ENTITIES];
        final int[] mask = new int[ENTITIES];
        final int[] state = new int[ENTITIES];

        void begin(int newNumber, int now, int arrival) {
            number = newNumber;
            bytes = 4;
            entries = 0;
            sentAt = now;
            arrivesAt = arrival;
        }

        void copyFrom(Packet other) {
            number = other.number;
            bytes = other.bytes;
            entries = other.entries;
            sentAt = other.sentAt;
            arrivesAt = other.arrivesAt;
            System.arraycopy(other.kind, 0, kind, 0, ENTITIES);
            System.arraycopy(other.entity, 0, entity, 0, ENTITIES);
            System.arraycopy(other.baseline, 0, baseline, 0, ENTITIES);
            System.arraycopy(other.mask, 0, mask, 0, ENTITIES);
            System.arraycopy(other.state, 0, state, 0, ENTITIES);
        }

        void add(int newKind, int newEntity, int newBaseline, int newMask, int newState) {
            if (entries >= ENTITIES) {
                return;
            }
            kind[entries] = newKind;
            entity[entries] = newEntity;
            baseline[entries] = newBaseline;
            mask[entries] = newMask;
            state[entries] = newState;
            entries++;
            bytes += bytesFor(newKind, newMask);
        }

        static int bytesFor(int kind, int mask) {
            // A creation has all four values: 2 and 4 bytes, as a difference of four values has.
            return kind == REMOVAL ? 2 : 2 + Integer.bitCount(mask);
        }

        int value(int what, int now) {
            switch (what) {
                case 0:
                    return number;
                case 1:
                    return bytes;
                case 2:
                    return entries;
                default:
                    return now - sentAt;
            }
        }

        int entryValue(int i, int what) {
            switch (what) {
                case 0:
                    return kind[i];
                case 1:
                    return entity[i];
                case 2:
                    return bytesFor(kind[i], mask[i]);
                case 3:
                    return baseline[i];
                default:
                    return mask[i];
            }
        }
    }

    /** Packets in the order in which they were sent. The slots behind the size are spare. */
    private static final class PacketList {
        // The document lets 12 be in flight; at most 10 are on their way, one of each of the last ticks.
        static final int ROOM = 12;
        int size;
        final Packet[] slots = new Packet[ROOM];

        PacketList() {
            for (int i = 0; i < ROOM; i++) {
                slots[i] = new Packet();
            }
        }

        void copyFrom(PacketList other) {
            size = other.size;
            for (int i = 0; i < size; i++) {
                slots[i].copyFrom(other.slots[i]);
            }
        }

        boolean isFull() {
            return size >= ROOM;
        }

        void addCopy(Packet packet) {
            if (!isFull()) {
                slots[size].copyFrom(packet);
                size++;
            }
        }

        int indexOf(int number) {
            for (int i = 0; i < size; i++) {
                if (slots[i].number == number) {
                    return i;
                }
            }
            return NONE;
        }

        void removeAt(int index) {
            if (index < 0 || index >= size) {
                return;
            }
            Packet spare = slots[index];
            for (int i = index; i < size - 1; i++) {
                slots[i] = slots[i + 1];
            }
            slots[size - 1] = spare;
            size--;
        }

        void removeArrived(int now) {
            for (int i = size - 1; i >= 0; i--) {
                if (slots[i].arrivesAt == now) {
                    removeAt(i);
                }
            }
        }

        void removeUpTo(int index) {
            for (int i = 0; i <= index; i++) {
                removeAt(0);
            }
        }
    }

    /** Acknowledgements on their way, in the order in which they were sent. */
    private static final class AckList {
        // Each belongs to a packet of one of the last 20 ticks: 10 to the client and 10 back.
        static final int ROOM = 24;
        int size;
        final int[] number = new int[ROOM];
        final int[] arrivesAt = new int[ROOM];

        void copyFrom(AckList other) {
            size = other.size;
            System.arraycopy(other.number, 0, number, 0, ROOM);
            System.arraycopy(other.arrivesAt, 0, arrivesAt, 0, ROOM);
        }

        void add(int newNumber, int arrival) {
            if (size < ROOM) {
                number[size] = newNumber;
                arrivesAt[size] = arrival;
                size++;
            }
        }

        void removeArrived(int now) {
            int left = 0;
            for (int i = 0; i < size; i++) {
                if (arrivesAt[i] != now) {
                    number[left] = number[i];
                    arrivesAt[left] = arrivesAt[i];
                    left++;
                }
            }
            size = left;
        }
    }

    /** The records that a client keeps: for each entity a stretch of the rows, the oldest one first. */
    private static final class Records {
        static final int KEPT = 12;
        final int[] size = new int[ENTITIES];
        final int[] number = new int[ENTITIES * KEPT];
        final int[] state = new int[ENTITIES * KEPT];

        void copyFrom(Records other) {
            System.arraycopy(other.size, 0, size, 0, ENTITIES);
            System.arraycopy(other.number, 0, number, 0, ENTITIES * KEPT);
            System.arraycopy(other.state, 0, state, 0, ENTITIES * KEPT);
        }

        void clear() {
            for (int e = 0; e < ENTITIES; e++) {
                size[e] = 0;
            }
        }

        void add(int e, int newNumber, int newState) {
            if (size[e] >= KEPT) {
                dropOldest(e);
            }
            int at = e * KEPT + size[e];
            number[at] = newNumber;
            state[at] = newState;
            size[e]++;
        }

        private void dropOldest(int e) {
            int first = e * KEPT;
            System.arraycopy(number, first + 1, number, first, KEPT - 1);
            System.arraycopy(state, first + 1, state, first, KEPT - 1);
            size[e] = KEPT - 1;
        }

        int lastNumber(int e) {
            return size[e] == 0 ? 0 : number[e * KEPT + size[e] - 1];
        }

        int lastState(int e) {
            return size[e] == 0 ? NO_STATE : state[e * KEPT + size[e] - 1];
        }

        int stateOfRecord(int e, int wanted) {
            int first = e * KEPT;
            for (int i = first; i < first + size[e]; i++) {
                if (number[i] == wanted) {
                    return state[i];
                }
            }
            return NO_STATE;
        }

        int value(int e, int what) {
            switch (what) {
                case 0:
                    return lastState(e) != NO_STATE ? 1 : 0;
                case 5:
                    return lastNumber(e);
                case 6:
                    return size[e];
                default:
                    return State.part(lastState(e), what - 1);
            }
        }
    }

    /** A client, with what it keeps itself, what the server keeps for it, and the link between them. */
    private static final class Client {
        static final int SENT = 0, BYTES = 1, LOST_PACKETS = 2, LOST_ACKS = 3, ACKS = 4, BROKEN = 5,
                IN_FLIGHT = 6, GIVEN_UP = 7, ENTRIES = 8;
        boolean connected;
        int centerX;
        int centerY;
        int radius;
        int budget;
        int packetsToLose;
        int acksToLose;
        // The number of packets sent is also the number of the last packet.
        final int[] counts = new int[LAST_COUNT + 1];
        final int[] priority = new int[ENTITIES];
        final int[] baselineNumber = new int[ENTITIES];
        final int[] baselineState = new int[ENTITIES];
        final Records records = new Records();
        final PacketList inFlight = new PacketList();
        // Apart from those in flight: a packet still arrives after the server has given it up.
        final PacketList onTheWay = new PacketList();
        final AckList acks = new AckList();
        private final int[] order = new int[ENTITIES];

        Client() {
            for (int e = 0; e < ENTITIES; e++) {
                baselineState[e] = NO_STATE;
            }
        }

        void copyFrom(Client other) {
            connected = other.connected;
            turnTo(other.centerX, other.centerY, other.radius);
            budget = other.budget;
            packetsToLose = other.packetsToLose;
            acksToLose = other.acksToLose;
            System.arraycopy(other.counts, 0, counts, 0, LAST_COUNT + 1);
            System.arraycopy(other.priority, 0, priority, 0, ENTITIES);
            System.arraycopy(other.baselineNumber, 0, baselineNumber, 0, ENTITIES);
            System.arraycopy(other.baselineState, 0, baselineState, 0, ENTITIES);
            records.copyFrom(other.records);
            inFlight.copyFrom(other.inFlight);
            onTheWay.copyFrom(other.onTheWay);
            acks.copyFrom(other.acks);
        }

        void reset() {
            connected = false;
            turnTo(0, 0, 0);
            budget = 0;
            packetsToLose = 0;
            acksToLose = 0;
            for (int i = 0; i <= LAST_COUNT; i++) {
                counts[i] = 0;
            }
            for (int e = 0; e < ENTITIES; e++) {
                priority[e] = 0;
                baselineNumber[e] = 0;
                baselineState[e] = NO_STATE;
            }
            records.clear();
            inFlight.size = 0;
            onTheWay.size = 0;
            acks.size = 0;
        }

        void turnTo(int x, int y, int newRadius) {
            centerX = x;
            centerY = y;
            radius = newRadius;
        }

        // -- the area

        /** NONE for an entity that does not exist. */
        int distance(Entities entities, int e) {
            int state = entities.state[e];
            if (state == NO_STATE) {
                return NONE;
            }
            int dx = Math.abs(State.part(state, State.X) - centerX);
            int dy = Math.abs(State.part(state, State.Y) - centerY);
            return Math.max(dx, dy);
        }

        boolean reaches(int distance) {
            return distance != NONE && distance <= radius;
        }

        int entitiesInArea(Entities entities) {
            int inside = 0;
            for (int e = 0; e < ENTITIES; e++) {
                inside += reaches(distance(entities, e)) ? 1 : 0;
            }
            return inside;
        }

        int staleCopies(Entities entities) {
            int stale = 0;
            for (int e = 0; e < ENTITIES; e++) {
                int due = reaches(distance(entities, e)) ? entities.state[e] : NO_STATE;
                stale += records.lastState(e) != due ? 1 : 0;
            }
            return stale;
        }

        // -- what the server sends

        /** The kind of the entry that is due for an entity; NONE if the client needs none. */
        int entryKind(Entities entities, int e) {
            boolean hasBaseline = baselineState[e] != NO_STATE;
            if (!reaches(distance(entities, e))) {
                return hasBaseline ? REMOVAL : NONE;
            }
            if (!hasBaseline) {
                return CREATION;
            }
            return baselineState[e] == entities.state[e] ? NONE : DIFFERENCE;
        }

        int entryMask(Entities entities, int e, int kind) {
            if (kind == CREATION) {
                return State.ALL_PARTS;
            }
            return kind == DIFFERENCE ? State.maskOfDifferences(baselineState[e], entities.state[e]) : 0;
        }

        int entryBytes(Entities entities, int e) {
            int kind = entryKind(entities, e);
            return kind == NONE ? 0 : Packet.bytesFor(kind, entryMask(entities, e, kind));
        }

        void giveUpOldPackets(int now, int longest) {
            for (int i = inFlight.size - 1; i >= 0; i--) {
                if (now - inFlight.slots[i].sentAt >= longest) {
                    inFlight.removeAt(i);
                    counts[GIVEN_UP]++;
                }
            }
        }

        void raisePriorities(Entities entities) {
            for (int e = 0; e < ENTITIES; e++) {
                int kind = entryKind(entities, e);
                if (kind == NONE) {
                    priority[e] = 0;
                } else if (kind == REMOVAL) {
                    priority[e] += 100;
                } else {
                    int weight = 1 << State.part(entities.state[e], State.KIND);
                    priority[e] += weight * (LAST_POSITION + 1 - distance(entities, e));
                }
            }
        }

        /** Puts the entities that wait into the order in which they are gone through; returns how many. */
        private int orderByPriority() {
            int waiting = 0;
            for (int e = 0; e < ENTITIES; e++) {
                if (priority[e] > 0) {
                    int at = waiting;
                    while (at > 0 && priority[order[at - 1]] < priority[e]) {
                        order[at] = order[at - 1];
                        at--;
                    }
                    order[at] = e;
                    waiting++;
                }
            }
            return waiting;
        }

        void sendPacket(Entities entities, int now, int delay) {
            if (inFlight.isFull()) {
                return;
            }
            Packet packet = inFlight.slots[inFlight.size];
            packet.begin(counts[SENT] + 1, now, now + delay);
            int waiting = orderByPriority();
            for (int i = 0; i < waiting; i++) {
                offerEntry(packet, entities, order[i]);
            }
            if (packet.entries == 0) {
                return;
            }
            inFlight.size++;
            counts[SENT]++;
            counts[BYTES] += packet.bytes;
            counts[ENTRIES] += packet.entries;
            if (packetsToLose > 0) {
                packetsToLose--;
                counts[LOST_PACKETS]++;
            } else {
                onTheWay.addCopy(packet);
            }
        }

        private void offerEntry(Packet packet, Entities entities, int e) {
            int kind = entryKind(entities, e);
            int mask = entryMask(entities, e, kind);
            if (kind == NONE || packet.bytes + Packet.bytesFor(kind, mask) > budget) {
                return;
            }
            int baseline = kind == DIFFERENCE ? baselineNumber[e] : 0;
            packet.add(kind, e, baseline, mask, kind == REMOVAL ? NO_STATE : entities.state[e]);
            priority[e] = 0;
        }

        // -- what arrives

        void receivePackets(int now, int delay) {
            for (int i = 0; i < onTheWay.size; i++) {
                Packet packet = onTheWay.slots[i];
                if (packet.arrivesAt == now) {
                    receivePacket(packet);
                    sendAck(packet.number, now + delay);
                }
            }
            onTheWay.removeArrived(now);
        }

        private void receivePacket(Packet packet) {
            for (int i = 0; i < packet.entries; i++) {
                if (records.lastNumber(packet.entity[i]) < packet.number) {
                    receiveEntry(packet, i);
                }
            }
        }

        private void receiveEntry(Packet packet, int i) {
            int e = packet.entity[i];
            int state = packet.state[i];
            if (packet.kind[i] == DIFFERENCE) {
                int base = records.stateOfRecord(e, packet.baseline[i]);
                if (base == NO_STATE) {
                    counts[BROKEN]++;
                    return;
                }
                state = State.withParts(base, state, packet.mask[i]);
            }
            records.add(e, packet.number, state);
        }

        private void sendAck(int number, int arrival) {
            if (acksToLose > 0) {
                acksToLose--;
                counts[LOST_ACKS]++;
            } else {
                acks.add(number, arrival);
            }
        }

        void receiveAcks(int now) {
            for (int i = 0; i < acks.size; i++) {
                if (acks.arrivesAt[i] == now) {
                    counts[ACKS]++;
                    receiveAck(inFlight.indexOf(acks.number[i]));
                }
            }
            acks.removeArrived(now);
        }

        private void receiveAck(int index) {
            if (index < 0 || index >= inFlight.size) {
                return;
            }
            Packet packet = inFlight.slots[index];
            for (int i = 0; i < packet.entries; i++) {
                int e = packet.entity[i];
                if (packet.number > baselineNumber[e]) {
                    baselineNumber[e] = packet.number;
                    baselineState[e] = packet.state[i];
                }
            }
            inFlight.removeUpTo(index);
        }

        // -- values

        int countValue(int what) {
            return what == IN_FLIGHT ? inFlight.size : counts[what];
        }

        int keptValue(Entities entities, int e, int what) {
            switch (what) {
                case 0:
                    return priority[e];
                case 1:
                    return baselineNumber[e];
                case 2:
                    return baselineState[e] != NO_STATE ? 1 : 0;
                case 7:
                    return reaches(distance(entities, e)) ? 1 : 0;
                case 8:
                    return distance(entities, e);
                default:
                    return State.part(baselineState[e], what - 3);
            }
        }
    }

    /** Everything that an undo brings back. */
    private static final class World {
        int time;
        int delay = 2;
        int interval = 2;
        final Entities entities = new Entities();
        final Client[] clients = new Client[CLIENTS];

        World() {
            for (int c = 0; c < CLIENTS; c++) {
                clients[c] = new Client();
            }
        }

        void copyFrom(World other) {
            time = other.time;
            delay = other.delay;
            interval = other.interval;
            entities.copyFrom(other.entities);
            for (int c = 0; c < CLIENTS; c++) {
                clients[c].copyFrom(other.clients[c]);
            }
        }

        void pass() {
            time++;
            entities.move();
            for (int c = 0; c < CLIENTS; c++) {
                clients[c].receivePackets(time, delay);
                clients[c].receiveAcks(time);
            }
            boolean packetsAreDue = interval > 0 && time % interval == 0;
            for (int c = 0; c < CLIENTS; c++) {
                Client client = clients[c];
                if (client.connected) {
                    client.giveUpOldPackets(time, 4 * delay + interval);
                    client.raisePriorities(entities);
                    if (packetsAreDue) {
                        client.sendPacket(entities, time, delay);
                    }
                }
            }
        }
    }

    /** The latest saved states, the oldest one first. */
    private static final class UndoStack {
        static final int DEPTH = 3;
        int size;
        private final World[] saved = new World[DEPTH];

        UndoStack() {
            for (int i = 0; i < DEPTH; i++) {
                saved[i] = new World();
            }
        }

        void push(World now) {
            if (size >= DEPTH) {
                dropOldest();
            }
            saved[size].copyFrom(now);
            size++;
        }

        private void dropOldest() {
            World spare = saved[0];
            for (int i = 0; i < DEPTH - 1; i++) {
                saved[i] = saved[i + 1];
            }
            saved[DEPTH - 1] = spare;
            size = DEPTH - 1;
        }

        void popInto(World now) {
            if (size > 0) {
                size--;
                now.copyFrom(saved[size]);
            }
        }
    }
}
