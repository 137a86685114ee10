/** Promises 4, 5, 7 and 8 where every size is at its greatest: the longest chain, the fullest queue, most deaths. */
final class GreatestSizesTest extends Checks {
    public static void main(String[] args) {
        longestChain();
        fullestQueueOfTheLastPort();
        fullestQueueOfReceiveRights();
        end();
    }

    /** Port 0 rides in port 1, that one in port 2, and so on to port 15, which task 0 holds at name 2 or 3. */
    private static void longestChain() {
        MachPortRights x = new MachPortRights(4, 16, 8, 8);
        x.allocate(0);
        x.giveSend(0, 1, 0);
        int holder = 1;
        for (int port = 1; port < 16; port++) {
            int rider = holder;
            holder = x.allocate(0);
            x.giveSend(0, holder, 0);
            due("send of port " + (port - 1), x.send(0, holder, rider, MOVE_RECEIVE), port);
            if (port > 1) {
                x.deallocate(0, rider);
            }
        }
        int last = holder;
        dueName(x, 0, 1, SEND, 0);
        dueName(x, 0, last, RECEIVE_SEND, 15);
        refused(x, "send(0, 1, " + last + ", 1)", () -> x.send(0, 1, last, MOVE_RECEIVE), ERR_CYCLE);
        due("destroyReceive", x.destroyReceive(0, last), 16);
        for (int port = 0; port < 16; port++) {
            duePort(x, port, PORT_DEAD, 0, 0);
        }
        dueName(x, 0, 1, DEAD, 0);
        refused(x, "allocate(1)", () -> x.allocate(1), ERR_FULL);
    }

    private static void fullestQueueOfTheLastPort() {
        MachPortRights x = new MachPortRights(4, 16, 8, 8);
        for (int port = 0; port < 16; port++) {
            x.allocate(port / 8 * 3);
        }
        dueName(x, 3, 8, RECEIVE, 15);
        x.giveSend(3, 8, 2);
        x.requestNoSenders(3, 8);
        for (int id = 1; id <= 8; id++) {
            due("send(2, 1, 0, 0)", x.send(2, 1, 0, DISP_NONE), id);
        }
        x.deallocate(2, 1);
        due("queueLength(15)", x.queueLength(15), 9);
        dueMessage(x, 15, 8, 9, KIND_NOTICE, -1);
        dueMessage(x, 14, 0, -1, -1, -1);
        for (int id = 1; id <= 9; id++) {
            due("receive(3, 8)", x.receive(3, 8), id);
        }
        refused(x, "receive(3, 8)", () -> x.receive(3, 8), ERR_EMPTY);
    }

    private static void fullestQueueOfReceiveRights() {
        MachPortRights x = new MachPortRights(4, 16, 8, 8);
        x.allocate(3);
        x.giveSend(3, 1, 0);
        for (int port = 1; port <= 8; port++) {
            int name = x.allocate(0);
            due("send of port " + port, x.send(0, 1, name, MOVE_RECEIVE), port);
        }
        int name = x.allocate(0);
        refused(x, "send(0, 1, 2, 1), full", () -> x.send(0, 1, name, MOVE_RECEIVE), ERR_FULL);
        for (int id = 1; id <= 7; id++) {
            due("receive(3, 1)", x.receive(3, 1), id);
            dueRecord(x, id, KIND_RECEIVE, id + 1, id);
        }
        refused(x, "receive(3, 1), no free name", () -> x.receive(3, 1), ERR_FULL);
        due("destroyReceive(3, 1)", x.destroyReceive(3, 1), 2);
        duePort(x, 8, PORT_DEAD, 0, 0);
        duePort(x, 7, PORT_HELD, 0, 0);
    }
}
