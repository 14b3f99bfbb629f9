import java.lang.reflect.Field;
import java.lang.reflect.Method;

/**
 * Sentences of the description that no run of calls can break, since the state that they speak of is never met. They
 * are promises all the same, so these tests bring that state about by changing the inside of the object. Where the
 * class is held in another way, change the helpers at the end.
 */
final class BeyondRunsTest {
    /** (0, 0), kind 0, health 0. */
    private static final int OTHER_STATE = 0;
    private static final int NO_STATE = -1;

    public static void main(String[] args) {
        Check.runAll(BeyondRunsTest.class);
    }

    // "(2) For the clients in ascending order: the packets for the client that arrive at this time are received, .."
    // Nothing is shared by clients; here two of them put their records on one list.

    static void clientsReceiveInAscendingOrder() throws ReflectiveOperationException {
        for (int second = 1; second <= 2; second++) {
            WorldDeltas w = Worlds.seen(1, 12);
            w.setTimes(10, 1);
            w.connect(second, 10, 10, 31, 12);
            setCount(w, second, 1);
            set(client(w, second), "records", get(client(w, 0), "records"));
            w.tick(11);
            Check.due("the record of client 0's #1, then that of #2 of client " + second, w.copy(0, 0, 6), 2);
            Check.due("the last record", w.copy(0, 0, 5), 2);
        }
    }

    static void clientsReceiveInNoOtherOrder() throws ReflectiveOperationException {
        WorldDeltas w = Worlds.seen(1, 12);
        w.setTimes(10, 1);
        w.connect(1, 10, 10, 31, 12);
        setCount(w, 0, 1);
        set(client(w, 1), "records", get(client(w, 0), "records"));
        w.tick(11);
        Check.due("client 0's #2 was first, so #1 of client 1 is too late", w.copy(0, 0, 6), 1);
        Check.due("the last record", w.copy(0, 0, 5), 2);
    }

    // ".. then the acknowledgements from the client that arrive at this time are received". An acknowledgement takes a
    // tick at least; here it takes none.

    static void acknowledgementsAreReceivedAfterPackets() throws ReflectiveOperationException {
        WorldDeltas w = Worlds.seen(1, 12);
        w.setTimes(1, 10);
        w.tick(10);
        set(get(w, "world"), "delay", 0);
        w.tick(1);
        Check.due("the packet is there", w.copy(0, 0, 5), 1);
        Check.due("its acknowledgement is there in the same tick", w.count(0, 4), 1);
    }

    // "(3) For the connected clients in ascending order: .. a packet may be sent"

    static void clientsAreSentPacketsInAscendingOrder() throws ReflectiveOperationException {
        WorldDeltas w = Worlds.seen(1, 12);
        for (int c = 1; c < 3; c++) {
            w.connect(c, 10, 10, 31, 12);
            setCount(w, c, 10 * c);
            set(client(w, c), "inFlight", get(client(w, 0), "inFlight"));
        }
        w.setTimes(10, 1);
        w.tick(1);
        for (int c = 0; c < 3; c++) {
            Check.due("packet " + c, w.packet(0, c, 0), 10 * c + 1);
        }
    }

    // "If no entry was put in, no packet is sent, and no number is used up." The least budget fits every entry; here
    // it is one byte less than the entry needs.

    static void aPacketWithoutEntriesIsNotSent() throws ReflectiveOperationException {
        WorldDeltas w = Worlds.seen(1, 12);
        w.setTimes(1, 1);
        set(client(w, 0), "budget", 9);
        w.lose(0, 1, 1);
        w.tick(3);
        for (int what = 0; what <= 8; what++) {
            Check.due("count " + what, w.count(0, what), 0);
        }
        Check.due("the entry is left out, and its priority stays", w.kept(0, 0, 0), 96);
        Check.due("no packet was lost", w.lose(0, 0, 0), 1);
        set(client(w, 0), "budget", 10);
        w.tick(1);
        Check.due("the number of the packet that is sent then", w.packet(0, 0, 0), 1);
        Check.due("its entries", w.packet(0, 0, 2), 1);
    }

    // "if the client has a record of the entity with a number of at least n, nothing happens."

    static void aRecordWithTheSameNumberStays() throws ReflectiveOperationException {
        dueRecordStays(1);
    }

    static void aRecordWithAGreaterNumberStays() throws ReflectiveOperationException {
        dueRecordStays(2);
    }

    private static void dueRecordStays(int number) throws ReflectiveOperationException {
        WorldDeltas w = Worlds.seen(2, 64);
        w.setTimes(1, 10);
        w.tick(10);
        addRecord(w, 0, number, OTHER_STATE);
        w.tick(1);
        Check.due("records", w.copy(0, 0, 6), 1);
        Check.due("number", w.copy(0, 0, 5), number);
        Check.due("x", w.copy(0, 0, 1), 0);
        Check.due("the other entry is received", w.copy(0, 1, 1), 10);
        Check.due("broken", w.count(0, 5), 0);
        w.tick(1);
        Check.due("and acknowledged", w.count(0, 4), 1);
    }

    static void aRecordWithASmallerNumberIsFollowedByANewOne() throws ReflectiveOperationException {
        WorldDeltas w = Worlds.seen(1, 64);
        w.setTimes(1, 10);
        w.tick(10);
        addRecord(w, 0, 0, OTHER_STATE);
        w.tick(1);
        Check.due("records", w.copy(0, 0, 6), 2);
        Check.due("number", w.copy(0, 0, 5), 1);
        Check.due("x", w.copy(0, 0, 1), 10);
    }

    // "for a difference with the state of the record that has the number of the baseline, with the values of the entry
    // in it." That record always has the state of the baseline; here it has another one.

    static void aDifferenceChangesTheStateOfTheRecord() throws ReflectiveOperationException {
        WorldDeltas w = Worlds.told(1);
        w.setHealth(0, 40);
        w.tick(6);
        Check.due("a difference of the health is in flight", w.entry(0, 0, 0, 4), 8);
        states(w)[0] = OTHER_STATE;
        w.tick(1);
        Check.due("records", w.copy(0, 0, 6), 2);
        Check.due("x is that of the record", w.copy(0, 0, 1), 0);
        Check.due("health is that of the entry", w.copy(0, 0, 4), 40);
    }

    // "If there is no such record with a state, no record is added, and the number of broken differences of the
    // client increases by 1."

    static void aDifferenceToARecordWithoutAStateIsBroken() throws ReflectiveOperationException {
        WorldDeltas w = Worlds.told(1);
        w.setHealth(0, 40);
        w.tick(6);
        Check.due("a difference is in flight", w.entry(0, 0, 0, 0), WorldDeltas.DIFFERENCE);
        states(w)[0] = NO_STATE;
        Check.due("the record has no state", w.copy(0, 0, 0), 0);
        w.tick(1);
        Check.due("broken", w.count(0, 5), 1);
        Check.due("records", w.copy(0, 0, 6), 1);
        Check.due("number", w.copy(0, 0, 5), 1);
        w.tick(1);
        Check.due("and acknowledged", w.kept(0, 0, 1), 2);
    }

    // "for each of its entries: if n is greater than the number of the baseline of the entity, the baseline becomes
    // the state that the entry contains or leads to"

    static void aBaselineWithTheSameNumberStays() throws ReflectiveOperationException {
        dueBaseline(1, 1, 0);
    }

    static void aBaselineWithAGreaterNumberStays() throws ReflectiveOperationException {
        dueBaseline(2, 2, 0);
    }

    static void aBaselineWithASmallerNumberIsFollowed() throws ReflectiveOperationException {
        dueBaseline(0, 1, 10);
    }

    private static void dueBaseline(int number, int numberDue, int xDue) throws ReflectiveOperationException {
        WorldDeltas w = Worlds.seen(2, 64);
        w.setTimes(1, 10);
        w.tick(11);
        ((int[]) get(client(w, 0), "baselineNumber"))[0] = number;
        ((int[]) get(client(w, 0), "baselineState"))[0] = OTHER_STATE;
        w.tick(1);
        Check.due("acknowledgements", w.count(0, 4), 1);
        Check.due("number of the baseline", w.kept(0, 0, 1), numberDue);
        Check.due("its x", w.kept(0, 0, 3), xDue);
        Check.due("the other entry's baseline", w.kept(0, 1, 1), 1);
        Check.due("in flight", w.count(0, 6), 0);
    }

    // How the class is held inside.

    private static Object client(WorldDeltas w, int c) throws ReflectiveOperationException {
        return ((Object[]) get(get(w, "world"), "clients"))[c];
    }

    /** The number of packets that a client was sent, which is the number of the last one. */
    private static void setCount(WorldDeltas w, int c, int sent) throws ReflectiveOperationException {
        ((int[]) get(client(w, c), "counts"))[0] = sent;
    }

    /** The states of client 0's records, those of entity 0 first. */
    private static int[] states(WorldDeltas w) throws ReflectiveOperationException {
        return (int[]) get(get(client(w, 0), "records"), "state");
    }

    private static void addRecord(WorldDeltas w, int e, int number, int state) throws ReflectiveOperationException {
        Object records = get(client(w, 0), "records");
        Method add = records.getClass().getDeclaredMethod("add", int.class, int.class, int.class);
        add.setAccessible(true);
        add.invoke(records, e, number, state);
    }

    private static Object get(Object owner, String name) throws ReflectiveOperationException {
        return field(owner, name).get(owner);
    }

    private static void set(Object owner, String name, Object value) throws ReflectiveOperationException {
        field(owner, name).set(owner, value);
    }

    private static Field field(Object owner, String name) throws ReflectiveOperationException {
        Field field = owner.getClass().getDeclaredField(name);
        field.setAccessible(true);
        return field;
    }
}
