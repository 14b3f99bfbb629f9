/** Promises 7 to 11: connect, look, disconnect, setTimes, lose. */
final class ClientsTest {
    public static void main(String[] args) {
        connect();
        connectBeginsAnew();
        connectEndsWhatIsOnItsWay();
        connectRefuses();
        look();
        lookRefuses();
        disconnect();
        setTimes();
        setTimesHoldsForWhatIsSentFromNowOn();
        lose();
        loseRefuses();
        Check.end();
    }

    /** Entity 0 at the center of client 0, delay 2, interval 2. */
    private static WorldDeltas oneEntity() {
        WorldDeltas w = new WorldDeltas();
        w.place(0, 10, 10, 0, 5);
        w.connect(0, 10, 10, 5, 12);
        return w;
    }

    private static void connect() {
        WorldDeltas w = new WorldDeltas();
        Check.due("connect", w.connect(0, 0, 0, 1, 12), false);
        Check.due("connect", w.connect(2, 31, 31, 31, 64), false);
        Check.due("connect again", w.connect(2, 31, 31, 31, 64), true);
        Check.due("stale", w.stale(2), 0);
        Check.dueThrow("client 1 is not connected", w, Check.STATE, () -> w.stale(1));
    }

    private static void connectBeginsAnew() {
        WorldDeltas w = oneEntity();
        w.tick(6);
        w.setHealth(0, 77);
        w.lose(0, 0, 1);
        w.tick(3);
        w.lose(0, 7, 9);
        Check.due("a copy", w.copy(0, 0, 0), 1);
        Check.due("packets sent", w.count(0, 0), 3);
        Check.due("baseline", w.kept(0, 0, 1), 2);
        Check.due("priority", w.kept(0, 0, 0), 32);
        Check.due("connect again", w.connect(0, 10, 10, 5, 12), true);
        for (int what = 0; what < 9; what++) {
            Check.due("count " + what, w.count(0, what), 0);
        }
        for (int what = 0; what < 7; what++) {
            Check.due("copy " + what, w.copy(0, 0, what), 0);
            Check.due("kept " + what, w.kept(0, 0, what), 0);
        }
        Check.dueThrow("no packet in flight", w, Check.ARGUMENT, () -> w.packet(0, 0, 0));
        w.tick(1);
        Check.due("packets on their way are gone", w.copy(0, 0, 6), 0);
        Check.due("acknowledgements on their way are gone", w.count(0, 4), 0);
        Check.due("numbers begin anew", w.packet(0, 0, 0), 1);
        Check.due("and times", w.packet(0, 0, 3), 0);
        Check.due("a creation again", w.entry(0, 0, 0, 0), WorldDeltas.CREATION);
        w.tick(4);
        Check.due("no packet is lost any more", w.count(0, 2), 0);
        Check.due("no acknowledgement either", w.count(0, 3), 0);
        Check.due("one is received", w.count(0, 4), 1);
        Check.due("lose", w.lose(0, 0, 0), 0);
    }

    private static void connectEndsWhatIsOnItsWay() {
        WorldDeltas w = oneEntity();
        w.tick(5);
        Check.due("one packet and one acknowledgement are on their way", w.copy(0, 0, 6) * 10 + w.count(0, 6), 12);
        w.connect(0, 10, 10, 5, 12);
        w.tick(1);
        Check.due("no packet arrives", w.copy(0, 0, 6), 0);
        Check.due("no acknowledgement arrives", w.count(0, 4), 0);
    }

    private static void connectRefuses() {
        WorldDeltas w = oneEntity();
        Check.dueThrow("client -1", w, Check.INDEX, () -> w.connect(-1, -1, 0, 1, 12));
        Check.dueThrow("client 3", w, Check.INDEX, () -> w.connect(3, 0, 0, 1, 12));
        Check.dueThrow("x -1", w, Check.ARGUMENT, () -> w.connect(0, -1, 0, 1, 12));
        Check.dueThrow("x 32", w, Check.ARGUMENT, () -> w.connect(0, 32, 0, 1, 12));
        Check.dueThrow("y -1", w, Check.ARGUMENT, () -> w.connect(0, 0, -1, 1, 12));
        Check.dueThrow("y 32", w, Check.ARGUMENT, () -> w.connect(0, 0, 32, 1, 12));
        Check.dueThrow("radius 0", w, Check.ARGUMENT, () -> w.connect(0, 0, 0, 0, 12));
        Check.dueThrow("radius 32", w, Check.ARGUMENT, () -> w.connect(0, 0, 0, 32, 12));
        Check.dueThrow("budget 11", w, Check.ARGUMENT, () -> w.connect(0, 0, 0, 1, 11));
        Check.dueThrow("budget 65", w, Check.ARGUMENT, () -> w.connect(0, 0, 0, 1, 65));
    }

    private static void look() {
        WorldDeltas w = new WorldDeltas();
        w.place(0, 10, 10, 0, 5);
        w.place(1, 15, 5, 0, 5);
        w.place(2, 16, 10, 0, 5);
        w.place(3, 10, 4, 0, 5);
        w.connect(1, 0, 0, 1, 12);
        Check.due("look, edges of the area", w.look(1, 10, 10, 5), 2);
        Check.due("look, one more", w.look(1, 10, 10, 6), 4);
        Check.due("look, all", w.look(1, 0, 0, 31), 4);
        Check.due("look, none", w.look(1, 31, 31, 1), 0);
        w.destroy(0);
        Check.due("look, one is gone", w.look(1, 10, 10, 6), 3);
        Check.due("kept in the area", w.kept(1, 3, 7), 1);
        Check.due("kept distance", w.kept(1, 3, 8), 6);
    }

    private static void lookRefuses() {
        WorldDeltas w = oneEntity();
        Check.dueThrow("client -1", w, Check.INDEX, () -> w.look(-1, -1, 0, 1));
        Check.dueThrow("client 3", w, Check.INDEX, () -> w.look(3, 0, 0, 1));
        Check.dueThrow("x -1", w, Check.ARGUMENT, () -> w.look(0, -1, 0, 1));
        Check.dueThrow("x 32", w, Check.ARGUMENT, () -> w.look(0, 32, 0, 1));
        Check.dueThrow("y -1", w, Check.ARGUMENT, () -> w.look(0, 0, -1, 1));
        Check.dueThrow("y 32", w, Check.ARGUMENT, () -> w.look(0, 0, 32, 1));
        Check.dueThrow("radius 0", w, Check.ARGUMENT, () -> w.look(0, 0, 0, 0));
        Check.dueThrow("radius 32", w, Check.ARGUMENT, () -> w.look(0, 0, 0, 32));
        Check.dueThrow("radius before connection", w, Check.ARGUMENT, () -> w.look(1, 0, 0, 32));
        Check.dueThrow("not connected", w, Check.STATE, () -> w.look(1, 0, 0, 1));
    }

    private static void disconnect() {
        WorldDeltas w = oneEntity();
        w.lose(0, 1, 0);
        w.tick(5);
        Check.due("disconnect counts lost packets too", w.disconnect(0), 2);
        for (int what = 0; what < 9; what++) {
            Check.due("count " + what, w.count(0, what), 0);
        }
        w.tick(5);
        for (int what = 0; what < 7; what++) {
            Check.due("copy " + what, w.copy(0, 0, what), 0);
        }
        Check.dueThrow("no packet", w, Check.ARGUMENT, () -> w.packet(0, 0, 0));
        Check.dueThrow("disconnect twice", w, Check.STATE, () -> w.disconnect(0));
        Check.dueThrow("disconnect -1", w, Check.INDEX, () -> w.disconnect(-1));
        Check.dueThrow("disconnect 3", w, Check.INDEX, () -> w.disconnect(3));
        Check.due("connect", w.connect(0, 10, 10, 5, 12), false);
        Check.due("disconnect at once", w.disconnect(0), 0);
    }

    private static void setTimes() {
        WorldDeltas w = new WorldDeltas();
        Check.due("setTimes", w.setTimes(10, 1), 2);
        Check.due("setTimes", w.setTimes(1, 10), 10);
        Check.due("setTimes", w.setTimes(1, 10), 1);
        Check.dueThrow("delay 0", w, Check.ARGUMENT, () -> w.setTimes(0, 1));
        Check.dueThrow("delay 11", w, Check.ARGUMENT, () -> w.setTimes(11, 1));
        Check.dueThrow("interval 0", w, Check.ARGUMENT, () -> w.setTimes(1, 0));
        Check.dueThrow("interval 11", w, Check.ARGUMENT, () -> w.setTimes(1, 11));
    }

    private static void setTimesHoldsForWhatIsSentFromNowOn() {
        WorldDeltas w = oneEntity();
        w.setTimes(4, 1);
        w.tick(1);
        w.lose(0, 50, 0);
        w.setTimes(2, 10);
        w.tick(3);
        Check.due("the packet keeps its delay of 4", w.copy(0, 0, 0), 0);
        w.tick(1);
        Check.due("and arrives then", w.copy(0, 0, 5), 1);
        w.setTimes(9, 10);
        w.tick(1);
        Check.due("the acknowledgement has a delay of 2", w.count(0, 4), 0);
        w.tick(1);
        Check.due("and arrives then", w.count(0, 4), 1);
        w.tick(3);
        Check.due("the interval is 10", w.count(0, 0), 1);
    }

    private static void lose() {
        WorldDeltas w = oneEntity();
        Check.due("lose", w.lose(0, 50, 50), 0);
        Check.due("lose instead", w.lose(0, 2, 1), 50);
        w.tick(2);
        Check.due("one is lost", w.count(0, 2), 1);
        Check.due("and is sent and in flight", w.count(0, 0) * 10 + w.count(0, 6), 11);
        Check.due("one is left", w.lose(0, 1, 1), 1);
        w.tick(4);
        Check.due("two are lost", w.count(0, 2), 2);
        Check.due("none has arrived", w.copy(0, 0, 0), 0);
        w.tick(2);
        Check.due("the third arrives", w.copy(0, 0, 5), 3);
        Check.due("its acknowledgement is lost", w.count(0, 3), 1);
        w.tick(2);
        Check.due("no acknowledgement yet", w.count(0, 4), 0);
        w.tick(2);
        Check.due("one of the fourth", w.count(0, 4), 1);
        Check.due("the baseline is the fourth", w.kept(0, 0, 1), 4);
        Check.due("lose", w.lose(0, 0, 0), 0);
    }

    private static void loseRefuses() {
        WorldDeltas w = oneEntity();
        Check.dueThrow("client -1", w, Check.INDEX, () -> w.lose(-1, -1, 0));
        Check.dueThrow("client 3", w, Check.INDEX, () -> w.lose(3, 0, 0));
        Check.dueThrow("packets -1", w, Check.ARGUMENT, () -> w.lose(0, -1, 0));
        Check.dueThrow("packets 51", w, Check.ARGUMENT, () -> w.lose(0, 51, 0));
        Check.dueThrow("acknowledgements -1", w, Check.ARGUMENT, () -> w.lose(0, 0, -1));
        Check.dueThrow("acknowledgements 51", w, Check.ARGUMENT, () -> w.lose(0, 0, 51));
        Check.dueThrow("range before connection", w, Check.ARGUMENT, () -> w.lose(1, 51, 0));
        Check.dueThrow("not connected", w, Check.STATE, () -> w.lose(1, 0, 0));
    }
}
