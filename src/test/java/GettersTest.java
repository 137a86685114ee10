/** Promises 9 to 16: the getters, within their ranges, at the edges and beyond. */
final class GettersTest extends Checks {
    private static final int[] FAR = {Integer.MIN_VALUE, -1000, -1, 1000, Integer.MAX_VALUE};

    public static void main(String[] args) {
        nameGetters();
        portGetters();
        queueGetters();
        lastReceivedGetter();
        namesAtTheEdges();
        portsAtTheEdges();
        messagesAtTheEdges();
        deadAndUnallocatedPorts();
        recordIsKeptThroughRefusals();
        noGetterChangesAnything();
        end();
    }

    /**
     * Task 0: 1 RECEIVE|SEND of port 0, 2 RECEIVE of port 1, 3 DEAD for port 3, 4 SEND_ONCE of port 1.
     * Task 1: 1 SEND of port 0. Port 0 has a plain message, a send right for port 1 and port 2 in its queue
     * and is armed; id 1 was received. Two tasks, six ports, four names.
     */
    private static MachPortRights someOfAll() {
        MachPortRights x = new MachPortRights(2, 6, 4, 4);
        x.allocate(0);
        x.allocate(0);
        x.allocate(0);
        x.giveSend(0, 1, 0);
        x.giveSend(0, 1, 1);
        x.send(0, 1, 2, MAKE_SEND_ONCE);
        x.receive(0, 1);
        x.send(0, 1, 0, DISP_NONE);
        x.send(0, 1, 2, MAKE_SEND);
        x.send(0, 1, 3, MOVE_RECEIVE);
        x.allocate(1);
        x.giveSend(1, 2, 0);
        x.destroyReceive(1, 2);
        x.requestNoSenders(0, 1);
        return x;
    }

    private static void nameGetters() {
        MachPortRights x = someOfAll();
        dueName(x, 0, 1, RECEIVE_SEND, 0);
        dueName(x, 0, 2, RECEIVE, 1);
        dueName(x, 0, 3, DEAD, 3);
        dueName(x, 0, 4, SEND_ONCE, 1);
        dueName(x, 1, 1, SEND, 0);
        dueName(x, 1, 2, 0, -1);
        dueName(x, 0, 0, 0, -1);
        dueName(x, 0, 5, 0, -1);
        dueName(x, 1, 0, 0, -1);
        dueName(x, 2, 1, 0, -1);
        for (int far : FAR) {
            dueName(x, far, 1, 0, -1);
            dueName(x, 0, far, 0, -1);
            dueName(x, far, far, 0, -1);
        }
    }

    private static void portGetters() {
        MachPortRights x = someOfAll();
        duePort(x, 0, PORT_HELD, 2, 0);
        duePort(x, 1, PORT_HELD, 1, 1);
        duePort(x, 2, PORT_IN_TRANSIT, 0, 0);
        duePort(x, 3, PORT_DEAD, 0, 0);
        duePort(x, 4, PORT_NONE, 0, 0);
        duePort(x, 6, PORT_NONE, 0, 0);
        boolean[] armed = {true, false, false, false, false, false, false};
        for (int port = 0; port < armed.length; port++) {
            due("isArmed(" + port + ")", x.isArmed(port), armed[port]);
        }
        for (int far : FAR) {
            duePort(x, far, PORT_NONE, 0, 0);
            due("isArmed(" + far + ")", x.isArmed(far), false);
        }
        x.destroyReceive(0, 1);
        due("isArmed(0), dead", x.isArmed(0), false);
        duePort(x, 0, PORT_DEAD, 0, 0);
        duePort(x, 1, PORT_HELD, 0, 1);
        duePort(x, 2, PORT_DEAD, 0, 0);
    }

    private static void queueGetters() {
        MachPortRights x = someOfAll();
        x.requestNoSenders(0, 2);
        due("queueLength(0)", x.queueLength(0), 3);
        due("queueLength(1)", x.queueLength(1), 0);
        dueMessage(x, 0, 0, 2, KIND_NONE, -1);
        dueMessage(x, 0, 1, 3, KIND_SEND, 1);
        dueMessage(x, 0, 2, 4, KIND_RECEIVE, 2);
        dueMessage(x, 0, 3, -1, -1, -1);
        dueMessage(x, 1, 0, -1, -1, -1);
        due("queueAt(0, 1, 3)", x.queueAt(0, 1, 3), -1);
        int[] empty = {1, 2, 3, 4, 5, 6};
        for (int port : empty) {
            due("queueLength(" + port + ")", x.queueLength(port), 0);
            dueMessage(x, port, 0, -1, -1, -1);
        }
        for (int far : FAR) {
            due("queueLength(" + far + ")", x.queueLength(far), 0);
            dueMessage(x, far, 0, -1, -1, -1);
            dueMessage(x, 0, far, -1, -1, -1);
            due("queueAt(0, 0, " + far + ")", x.queueAt(0, 0, far), -1);
        }
        x.receive(0, 1);
        due("queueLength(0)", x.queueLength(0), 2);
        dueMessage(x, 0, 0, 3, KIND_SEND, 1);
        dueMessage(x, 0, 2, -1, -1, -1);
        x.deallocate(0, 1);
        x.deallocate(1, 1);
        due("queueLength(0), the notice counts", x.queueLength(0), 3);
        dueMessage(x, 0, 2, 5, KIND_NOTICE, -1);
        x.destroyReceive(0, 1);
        due("queueLength(0), dead", x.queueLength(0), 0);
        dueMessage(x, 0, 0, -1, -1, -1);
    }

    private static void lastReceivedGetter() {
        MachPortRights fresh = new MachPortRights(2, 4, 4, 2);
        dueRecord(fresh, 0, KIND_NONE, 0, -1);
        MachPortRights x = someOfAll();
        dueRecord(x, 1, KIND_SEND_ONCE, 4, 1);
        due("lastReceived(4)", x.lastReceived(4), -1);
        for (int far : FAR) {
            due("lastReceived(" + far + ")", x.lastReceived(far), -1);
        }
        x.receive(0, 2);
        x.receive(0, 9);
        x.receive(9, 1);
        x.deallocate(0, 4);
        x.destroyReceive(0, 2);
        dueRecord(x, 1, KIND_SEND_ONCE, 4, 1);
        x.receive(0, 1);
        dueRecord(x, 2, KIND_NONE, 0, -1);
        x.receive(0, 1);
        dueRecord(x, 3, KIND_DEAD, 0, 1);
        x.receive(0, 1);
        dueRecord(x, 4, KIND_RECEIVE, 2, 2);
    }

    /** Every name of every task is taken, so that a number beyond the range would meet a neighbour's name. */
    private static MachPortRights noFreeName(int tasks, int names) {
        MachPortRights x = new MachPortRights(tasks, 16, names, 8);
        for (int task = 0; task < tasks; task++) {
            x.allocate(task);
            x.giveSend(task, 1, task);
            for (int name = 2; name <= names; name++) {
                x.send(task, 1, 1, MAKE_SEND_ONCE);
                x.receive(task, 1);
            }
        }
        return x;
    }

    /** Promises 9 and 10: "0 (-1) if the name is free or if task or name is out of range". */
    private static void namesAtTheEdges() {
        for (int tasks = 2; tasks <= 4; tasks++) {
            for (int names = 4; names <= 8; names++) {
                MachPortRights x = noFreeName(tasks, names);
                for (int task = -1; task <= tasks; task++) {
                    for (int name = -1; name <= names + 1; name++) {
                        boolean inside = task >= 0 && task < tasks && name >= 1 && name <= names;
                        int type = name == 1 ? RECEIVE_SEND : SEND_ONCE;
                        dueName(x, task, name, inside ? type : 0, inside ? task : -1);
                    }
                    dueName(x, task, 9, 0, -1);
                    dueName(x, task, Integer.MIN_VALUE, 0, -1);
                    dueName(x, task, Integer.MAX_VALUE, 0, -1);
                }
                x.deallocate(tasks - 1, names);
                dueName(x, tasks - 1, names, 0, -1);
            }
        }
    }

    /** All ports are live and armed and have a send and a send-once right and a full queue. */
    private static MachPortRights busyPorts(int ports) {
        MachPortRights x = new MachPortRights(4, ports, 8, 8);
        for (int port = 0; port < ports; port++) {
            int name = x.allocate(port % 4);
            x.giveSend(port % 4, name, port % 4);
            x.send(port % 4, name, name, MAKE_SEND_ONCE);
            for (int turn = 1; turn < 8; turn++) {
                x.send(port % 4, name, 0, DISP_NONE);
            }
            x.requestNoSenders(port % 4, name);
        }
        return x;
    }

    /** Promises 11, 12, 13 and 15, and queueLength of 14: the first port, the last one, and one beyond each. */
    private static void portsAtTheEdges() {
        for (int ports = 4; ports <= 16; ports++) {
            MachPortRights x = busyPorts(ports);
            for (int port = -2; port <= ports + 1; port++) {
                boolean inside = port >= 0 && port < ports;
                duePort(x, port, inside ? PORT_HELD : PORT_NONE, inside ? 1 : 0, inside ? 1 : 0);
                due("isArmed(" + port + ")", x.isArmed(port), inside);
                due("queueLength(" + port + ")", x.queueLength(port), inside ? 8 : 0);
            }
        }
    }

    /** Promise 14: "pos must be in 0..queueLength(port)-1, field in 0..2", where each neighbour's queue is full. */
    private static void messagesAtTheEdges() {
        MachPortRights x = busyPorts(16);
        for (int task = 0; task < 4; task++) {
            for (int name = 1; name <= 4; name++) {
                x.deallocate(task, name);
            }
        }
        for (int port = 0; port < 16; port++) {
            int firstId = 8 * port + 1;
            int noticeId = 129 + port % 4 * 4 + port / 4;
            due("queueLength(" + port + ")", x.queueLength(port), 9);
            dueMessage(x, port, -1, -1, -1, -1);
            dueMessage(x, port, 0, firstId, KIND_SEND_ONCE, port);
            for (int pos = 1; pos < 8; pos++) {
                dueMessage(x, port, pos, firstId + pos, KIND_NONE, -1);
            }
            dueMessage(x, port, 8, noticeId, KIND_NOTICE, -1);
            dueMessage(x, port, 9, -1, -1, -1);
            for (int pos = -1; pos <= 9; pos++) {
                due("queueAt(" + port + ", " + pos + ", -1)", x.queueAt(port, pos, -1), -1);
                due("queueAt(" + port + ", " + pos + ", 3)", x.queueAt(port, pos, 3), -1);
            }
        }
        for (int pos = -1; pos <= 9; pos++) {
            dueMessage(x, -1, pos, -1, -1, -1);
            dueMessage(x, 16, pos, -1, -1, -1);
        }
        x.receive(3, 4);
        dueMessage(x, 15, 8, -1, -1, -1);
        dueMessage(x, 15, 7, 144, KIND_NOTICE, -1);
    }

    /** "0 for dead, unallocated or out-of-range ports"; "false if port is out of range or not live". */
    private static void deadAndUnallocatedPorts() {
        MachPortRights x = busyPorts(8);
        for (int task = 0; task < 4; task++) {
            x.destroyReceive(task, 1);
        }
        for (int port = 0; port < 4; port++) {
            duePort(x, port, PORT_DEAD, 0, 0);
            due("isArmed(" + port + ")", x.isArmed(port), false);
            due("queueLength(" + port + ")", x.queueLength(port), 0);
            dueMessage(x, port, 0, -1, -1, -1);
            dueName(x, port, 1, DEAD, port);
        }
        MachPortRights fresh = new MachPortRights(4, 8, 8, 8);
        for (int port = 0; port < 8; port++) {
            duePort(fresh, port, PORT_NONE, 0, 0);
            due("isArmed(" + port + ")", fresh.isArmed(port), false);
            due("queueLength(" + port + ")", fresh.queueLength(port), 0);
            dueMessage(fresh, port, 0, -1, -1, -1);
        }
    }

    /** Promise 16: "The record is changed only by a receive that is not refused": ERR_EMPTY and ERR_FULL besides. */
    private static void recordIsKeptThroughRefusals() {
        MachPortRights x = noFreeName(2, 4);
        x.send(1, 1, 0, DISP_NONE);
        x.receive(1, 1);
        dueRecord(x, 7, KIND_NONE, 0, -1);
        due("receive(1, 1), empty", x.receive(1, 1), ERR_EMPTY);
        dueRecord(x, 7, KIND_NONE, 0, -1);
        x.send(1, 1, 1, MAKE_SEND_ONCE);
        due("receive(1, 1), full", x.receive(1, 1), ERR_FULL);
        dueRecord(x, 7, KIND_NONE, 0, -1);
        x.deallocate(1, 2);
        due("receive(1, 1)", x.receive(1, 1), 8);
        dueRecord(x, 8, KIND_SEND_ONCE, 2, 1);
        due("receive(2, 1), no task", x.receive(2, 1), ERR_TASK);
        due("receive(1, 2), SEND_ONCE", x.receive(1, 2), ERR_NAME);
        dueRecord(x, 8, KIND_SEND_ONCE, 2, 1);
    }

    /** "Changes nothing", each getter for itself: asked often, the object goes on as one that was never asked. */
    private static void noGetterChangesAnything() {
        int[] numbers = {Integer.MIN_VALUE, -1, 0, 1, 2, 3, 4, 5, 6, 15, 16, Integer.MAX_VALUE};
        for (int getter = 0; getter < 9; getter++) {
            MachPortRights asked = someOfAll();
            for (int first : numbers) {
                for (int second : numbers) {
                    ask(asked, getter, first, second);
                }
            }
            MachPortRights twin = someOfAll();
            due("the state after getter " + getter, seen(asked), seen(twin));
            due("what follows getter " + getter, goOn(asked), goOn(twin));
        }
    }

    private static void ask(MachPortRights x, int getter, int first, int second) {
        switch (getter) {
            case 0: x.nameType(first, second); break;
            case 1: x.namePort(first, second); break;
            case 2: x.portState(first); break;
            case 3: x.sendRights(first); break;
            case 4: x.sendOnceRights(first); break;
            case 5: x.queueLength(first); break;
            case 6: x.isArmed(first); break;
            case 7:
                for (int field = -1; field <= 3; field++) {
                    x.queueAt(first, second, field);
                }
                break;
            default: x.lastReceived(first); break;
        }
    }
}
