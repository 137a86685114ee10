/** Promises 4, 5, 7 and 8 where every size is at its greatest: the longest chain, the fullest queue, most deaths. */
final class GreatestSizesTest extends Checks {
    public static void main(String[] args) {
        longestChain();
        widestDeath();
        fullestQueueOfTheLastPort();
        fullestQueueOfReceiveRights();
        mostSendRights();
        mostSendOnceRights();
        end();
    }

    /** Port 0 rides in port 1, that one in port 2, and so on to port 15, which task 0 holds at name 2 or 3. */
    private static void longestChain() {
        MachPortRights x = new MachPortRights(4, 16, 8, 8);
        x.allocate(0);
        x.giveSend(0, 1, 0);
        int holder = 1;
        for (int port = 1; port < 16; port++) {
            int rider = holder;
            holder = x.allocate(0);
            x.giveSend(0, holder, 0);
            due("send of port " + (port - 1), x.send(0, holder, rider, MOVE_RECEIVE), port);
            if (port > 1) {
                x.deallocate(0, rider);
            }
        }
        int last = holder;
        dueName(x, 0, 1, SEND, 0);
        dueName(x, 0, last, RECEIVE_SEND, 15);
        refused(x, "send(0, 1, " + last + ", 1)", () -> x.send(0, 1, last, MOVE_RECEIVE), ERR_CYCLE);
        due("destroyReceive", x.destroyReceive(0, last), 16);
        for (int port = 0; port < 16; port++) {
            duePort(x, port, PORT_DEAD, 0, 0);
        }
        dueName(x, 0, 1, DEAD, 0);
        refused(x, "allocate(1)", () -> x.allocate(1), ERR_FULL);
    }

    /** Port 0 holds port 1 and the ports 9 to 15, and port 1 the ports 2 to 8: all of them die at once. */
    private static void widestDeath() {
        MachPortRights x = new MachPortRights(4, 16, 8, 8);
        for (int name = 1; name <= 2; name++) {
            x.allocate(0);
            x.giveSend(0, name, 0);
        }
        for (int port = 2; port <= 8; port++) {
            int rider = x.allocate(0);
            due("send of port " + port, x.send(0, 2, rider, MOVE_RECEIVE), port - 1);
        }
        due("send of port 1", x.send(0, 1, 2, MOVE_RECEIVE), 8);
        for (int port = 9; port <= 15; port++) {
            int rider = x.allocate(0);
            due("send of port " + port, x.send(0, 1, rider, MOVE_RECEIVE), port);
        }
        due("queueLength(0)", x.queueLength(0), 8);
        due("queueLength(1)", x.queueLength(1), 7);
        due("destroyReceive(0, 1)", x.destroyReceive(0, 1), 16);
        for (int port = 0; port < 16; port++) {
            duePort(x, port, PORT_DEAD, 0, 0);
            due("queueLength(" + port + ")", x.queueLength(port), 0);
        }
        dueName(x, 0, 1, DEAD, 0);
        dueName(x, 0, 2, DEAD, 1);
        dueName(x, 0, 3, 0, -1);
    }

    private static void fullestQueueOfTheLastPort() {
        MachPortRights x = new MachPortRights(4, 16, 8, 8);
        for (int port = 0; port < 16; port++) {
            x.allocate(port / 8 * 3);
        }
        dueName(x, 3, 8, RECEIVE, 15);
        x.giveSend(3, 8, 2);
        x.requestNoSenders(3, 8);
        for (int id = 1; id <= 8; id++) {
            due("send(2, 1, 0, 0)", x.send(2, 1, 0, DISP_NONE), id);
        }
        x.deallocate(2, 1);
        due("queueLength(15)", x.queueLength(15), 9);
        dueMessage(x, 15, 8, 9, KIND_NOTICE, -1);
        dueMessage(x, 14, 0, -1, -1, -1);
        for (int id = 1; id <= 9; id++) {
            due("receive(3, 8)", x.receive(3, 8), id);
        }
        refused(x, "receive(3, 8)", () -> x.receive(3, 8), ERR_EMPTY);
    }

    private static void fullestQueueOfReceiveRights() {
        MachPortRights x = new MachPortRights(4, 16, 8, 8);
        x.allocate(3);
        x.giveSend(3, 1, 0);
        for (int port = 1; port <= 8; port++) {
            int name = x.allocate(0);
            due("send of port " + port, x.send(0, 1, name, MOVE_RECEIVE), port);
        }
        int name = x.allocate(0);
        refused(x, "send(0, 1, 2, 1), full", () -> x.send(0, 1, name, MOVE_RECEIVE), ERR_FULL);
        for (int id = 1; id <= 7; id++) {
            due("receive(3, 1)", x.receive(3, 1), id);
            dueRecord(x, id, KIND_RECEIVE, id + 1, id);
        }
        refused(x, "receive(3, 1), no free name", () -> x.receive(3, 1), ERR_FULL);
        due("destroyReceive(3, 1)", x.destroyReceive(3, 1), 2);
        duePort(x, 8, PORT_DEAD, 0, 0);
        duePort(x, 7, PORT_HELD, 0, 0);
    }

    /** Every queue is full of this right for port 0, which task 0 holds at 1; the ports are shared out among all. */
    private static MachPortRights everyQueueFull(int disp) {
        MachPortRights x = new MachPortRights(4, 16, 8, 8);
        for (int port = 0; port < 16; port++) {
            int task = port % 4;
            int name = x.allocate(task);
            int box = x.giveSend(task, name, 0);
            for (int turn = 0; turn < 8; turn++) {
                due("send of port 0", x.send(0, box, 1, disp), 8 * port + turn + 1);
            }
            x.deallocate(0, box);
        }
        return x;
    }

    /** S(p) at its greatest: every place in every queue, and a name in every task. */
    private static void mostSendRights() {
        MachPortRights x = everyQueueFull(MAKE_SEND);
        duePort(x, 0, PORT_HELD, 128, 0);
        for (int task = 0; task < 4; task++) {
            x.giveSend(0, 1, task);
        }
        duePort(x, 0, PORT_HELD, 132, 0);
        due("requestNoSenders(0, 1)", x.requestNoSenders(0, 1), OK);
        for (int turn = 0; turn < 8; turn++) {
            x.receive(0, 1);
            duePort(x, 0, PORT_HELD, 131 - turn, 0);
        }
        for (int port = 1; port < 16; port++) {
            due("destroyReceive of port " + port, x.destroyReceive(port % 4, port / 4 + 1), 1);
            duePort(x, 0, PORT_HELD, 124 - 8 * port, 0);
        }
        for (int task = 0; task < 4; task++) {
            due("isArmed(0)", x.isArmed(0), true);
            x.deallocate(task, task == 0 ? 1 : 5);
        }
        duePort(x, 0, PORT_HELD, 0, 0);
        due("isArmed(0)", x.isArmed(0), false);
        dueMessage(x, 0, 0, 129, KIND_NOTICE, -1);
    }

    /** O(p) likewise, and every free name of task 3 besides. */
    private static void mostSendOnceRights() {
        MachPortRights x = everyQueueFull(MAKE_SEND_ONCE);
        duePort(x, 0, PORT_HELD, 0, 128);
        int box = x.giveSend(3, 1, 0);
        for (int name = 5; name <= 8; name++) {
            due("receive(3, 1)", x.receive(3, 1), 25 + name - 5);
            dueName(x, 3, name, SEND_ONCE, 0);
            due("send of port 0", x.send(0, box, 1, MAKE_SEND_ONCE), 129 + name - 5);
        }
        duePort(x, 0, PORT_HELD, 0, 132);
        for (int port = 1; port < 16; port++) {
            due("destroyReceive of port " + port, x.destroyReceive(port % 4, port / 4 + 1), 1);
            duePort(x, 0, PORT_HELD, 0, 132 - 8 * port);
        }
        for (int name = 5; name <= 8; name++) {
            x.deallocate(3, name);
        }
        duePort(x, 0, PORT_HELD, 0, 8);
        due("destroyReceive(0, 1)", x.destroyReceive(0, 1), 1);
        duePort(x, 0, PORT_DEAD, 0, 0);
    }
}
