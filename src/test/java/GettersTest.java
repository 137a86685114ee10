/** Promises 9 to 16: the getters, within their ranges, at the edges and beyond. */
final class GettersTest extends Checks {
    private static final int[] FAR = {Integer.MIN_VALUE, -1000, -1, 1000, Integer.MAX_VALUE};

    public static void main(String[] args) {
        nameGetters();
        portGetters();
        queueGetters();
        lastReceivedGetter();
        gettersChangeNothing();
        end();
    }

    /**
     * Task 0: 1 RECEIVE|SEND of port 0, 2 RECEIVE of port 1, 3 DEAD for port 3, 4 SEND_ONCE of port 1.
     * Task 1: 1 SEND of port 0. Port 0 has a plain message, a send right for port 1 and port 2 in its queue
     * and is armed; id 1 was received. Two tasks, six ports, four names.
     */
    private static MachPortRights someOfAll() {
        MachPortRights x = new MachPortRights(2, 6, 4, 4);
        x.allocate(0);
        x.allocate(0);
        x.allocate(0);
        x.giveSend(0, 1, 0);
        x.giveSend(0, 1, 1);
        x.send(0, 1, 2, MAKE_SEND_ONCE);
        x.receive(0, 1);
        x.send(0, 1, 0, DISP_NONE);
        x.send(0, 1, 2, MAKE_SEND);
        x.send(0, 1, 3, MOVE_RECEIVE);
        x.allocate(1);
        x.giveSend(1, 2, 0);
        x.destroyReceive(1, 2);
        x.requestNoSenders(0, 1);
        return x;
    }

    private static void nameGetters() {
        MachPortRights x = someOfAll();
        dueName(x, 0, 1, RECEIVE_SEND, 0);
        dueName(x, 0, 2, RECEIVE, 1);
        dueName(x, 0, 3, DEAD, 3);
        dueName(x, 0, 4, SEND_ONCE, 1);
        dueName(x, 1, 1, SEND, 0);
        dueName(x, 1, 2, 0, -1);
        dueName(x, 0, 0, 0, -1);
        dueName(x, 0, 5, 0, -1);
        dueName(x, 1, 0, 0, -1);
        dueName(x, 2, 1, 0, -1);
        for (int far : FAR) {
            dueName(x, far, 1, 0, -1);
            dueName(x, 0, far, 0, -1);
            dueName(x, far, far, 0, -1);
        }
    }

    private static void portGetters() {
        MachPortRights x = someOfAll();
        duePort(x, 0, PORT_HELD, 2, 0);
        duePort(x, 1, PORT_HELD, 1, 1);
        duePort(x, 2, PORT_IN_TRANSIT, 0, 0);
        duePort(x, 3, PORT_DEAD, 0, 0);
        duePort(x, 4, PORT_NONE, 0, 0);
        duePort(x, 6, PORT_NONE, 0, 0);
        boolean[] armed = {true, false, false, false, false, false, false};
        for (int port = 0; port < armed.length; port++) {
            due("isArmed(" + port + ")", x.isArmed(port), armed[port]);
        }
        for (int far : FAR) {
            duePort(x, far, PORT_NONE, 0, 0);
            due("isArmed(" + far + ")", x.isArmed(far), false);
        }
        x.destroyReceive(0, 1);
        due("isArmed(0), dead", x.isArmed(0), false);
        duePort(x, 0, PORT_DEAD, 0, 0);
        duePort(x, 1, PORT_HELD, 0, 1);
        duePort(x, 2, PORT_DEAD, 0, 0);
    }

    private static void queueGetters() {
        MachPortRights x = someOfAll();
        x.requestNoSenders(0, 2);
        due("queueLength(0)", x.queueLength(0), 3);
        due("queueLength(1)", x.queueLength(1), 0);
        dueMessage(x, 0, 0, 2, KIND_NONE, -1);
        dueMessage(x, 0, 1, 3, KIND_SEND, 1);
        dueMessage(x, 0, 2, 4, KIND_RECEIVE, 2);
        dueMessage(x, 0, 3, -1, -1, -1);
        dueMessage(x, 1, 0, -1, -1, -1);
        due("queueAt(0, 1, 3)", x.queueAt(0, 1, 3), -1);
        int[] empty = {1, 2, 3, 4, 5, 6};
        for (int port : empty) {
            due("queueLength(" + port + ")", x.queueLength(port), 0);
            dueMessage(x, port, 0, -1, -1, -1);
        }
        for (int far : FAR) {
            due("queueLength(" + far + ")", x.queueLength(far), 0);
            dueMessage(x, far, 0, -1, -1, -1);
            dueMessage(x, 0, far, -1, -1, -1);
            due("queueAt(0, 0, " + far + ")", x.queueAt(0, 0, far), -1);
        }
        x.receive(0, 1);
        due("queueLength(0)", x.queueLength(0), 2);
        dueMessage(x, 0, 0, 3, KIND_SEND, 1);
        dueMessage(x, 0, 2, -1, -1, -1);
        x.deallocate(0, 1);
        x.deallocate(1, 1);
        due("queueLength(0), the notice counts", x.queueLength(0), 3);
        dueMessage(x, 0, 2, 5, KIND_NOTICE, -1);
        x.destroyReceive(0, 1);
        due("queueLength(0), dead", x.queueLength(0), 0);
        dueMessage(x, 0, 0, -1, -1, -1);
    }

    private static void lastReceivedGetter() {
        MachPortRights fresh = new MachPortRights(2, 4, 4, 2);
        dueRecord(fresh, 0, KIND_NONE, 0, -1);
        MachPortRights x = someOfAll();
        dueRecord(x, 1, KIND_SEND_ONCE, 4, 1);
        due("lastReceived(4)", x.lastReceived(4), -1);
        for (int far : FAR) {
            due("lastReceived(" + far + ")", x.lastReceived(far), -1);
        }
        x.receive(0, 2);
        x.receive(0, 9);
        x.receive(9, 1);
        x.deallocate(0, 4);
        x.destroyReceive(0, 2);
        dueRecord(x, 1, KIND_SEND_ONCE, 4, 1);
        x.receive(0, 1);
        dueRecord(x, 2, KIND_NONE, 0, -1);
        x.receive(0, 1);
        dueRecord(x, 3, KIND_DEAD, 0, 1);
        x.receive(0, 1);
        dueRecord(x, 4, KIND_RECEIVE, 2, 2);
    }

    private static void gettersChangeNothing() {
        MachPortRights x = someOfAll();
        String before = seen(x);
        due("all that is seen, a second time", seen(x), before);
        due("send(1, 1, 0, 0), no getter used an id", x.send(1, 1, 0, DISP_NONE), 5);
    }
}
