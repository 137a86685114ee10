/** Promise 5: receive, with the copyout of the shared rules. */
final class ReceiveTest extends Checks {
    public static void main(String[] args) {
        messagesComeInOrder();
        sendRightTakesLeastFreeName();
        sendRightMerges();
        sendOnceRightsHaveNamesOfTheirOwn();
        receiveRight();
        deadRightsVanish();
        fullTask();
        wrongInputs();
        end();
    }

    /** Task 1 holds port 0 at name 1, and task 0 can send to it by name 1 and holds ports 1 and 2 at 2 and 3. */
    private static MachPortRights mailbox(int names) {
        MachPortRights x = new MachPortRights(2, 16, names, 4);
        x.allocate(1);
        x.giveSend(1, 1, 0);
        x.allocate(0);
        x.allocate(0);
        return x;
    }

    private static void messagesComeInOrder() {
        MachPortRights x = mailbox(8);
        x.send(0, 1, 0, DISP_NONE);
        x.requestNoSenders(1, 1);
        x.deallocate(0, 1);
        x.giveSend(1, 1, 0);
        x.send(0, 1, 0, DISP_NONE);
        due("queueLength(0)", x.queueLength(0), 3);
        due("receive(1, 1)", x.receive(1, 1), 1);
        dueRecord(x, 1, KIND_NONE, 0, -1);
        dueMessage(x, 0, 0, 2, KIND_NOTICE, -1);
        dueMessage(x, 0, 1, 3, KIND_NONE, -1);
        due("receive(1, 1)", x.receive(1, 1), 2);
        dueRecord(x, 2, KIND_NOTICE, 0, -1);
        due("receive(1, 1)", x.receive(1, 1), 3);
        dueRecord(x, 3, KIND_NONE, 0, -1);
        due("queueLength(0)", x.queueLength(0), 0);
        refused(x, "receive(1, 1), empty", () -> x.receive(1, 1), ERR_EMPTY);
        due("send(0, 1, 0, 0), the counter stood still", x.send(0, 1, 0, DISP_NONE), 4);
    }

    private static void sendRightTakesLeastFreeName() {
        MachPortRights x = mailbox(8);
        x.allocate(1);
        x.allocate(1);
        x.destroyReceive(1, 2);
        x.send(0, 1, 2, MAKE_SEND);
        due("receive(1, 1)", x.receive(1, 1), 1);
        dueRecord(x, 1, KIND_SEND, 2, 1);
        dueName(x, 1, 2, SEND, 1);
        duePort(x, 1, PORT_HELD, 1, 0);
    }

    private static void sendRightMerges() {
        MachPortRights x = mailbox(8);
        x.send(0, 1, 2, MAKE_SEND);
        x.send(0, 1, 2, MAKE_SEND);
        x.send(0, 1, 1, COPY_SEND);
        x.send(0, 1, 1, COPY_SEND);
        x.requestNoSenders(0, 2);
        x.receive(1, 1);
        duePort(x, 1, PORT_HELD, 2, 0);
        due("receive(1, 1), into SEND", x.receive(1, 1), 2);
        dueRecord(x, 2, KIND_SEND, 2, 1);
        duePort(x, 1, PORT_HELD, 1, 0);
        due("isArmed(1)", x.isArmed(1), true);
        dueName(x, 1, 3, 0, -1);
        due("receive(1, 1), into RECEIVE", x.receive(1, 1), 3);
        dueRecord(x, 3, KIND_SEND, 1, 0);
        dueName(x, 1, 1, RECEIVE_SEND, 0);
        duePort(x, 0, PORT_HELD, 3, 0);
        due("receive(1, 1), into RECEIVE|SEND", x.receive(1, 1), 4);
        dueRecord(x, 4, KIND_SEND, 1, 0);
        dueName(x, 1, 1, RECEIVE_SEND, 0);
        duePort(x, 0, PORT_HELD, 2, 0);
    }

    private static void sendOnceRightsHaveNamesOfTheirOwn() {
        MachPortRights x = mailbox(8);
        x.giveSend(0, 2, 1);
        x.send(0, 1, 2, MAKE_SEND_ONCE);
        x.send(0, 1, 2, MAKE_SEND_ONCE);
        due("receive(1, 1)", x.receive(1, 1), 1);
        dueRecord(x, 1, KIND_SEND_ONCE, 3, 1);
        due("receive(1, 1)", x.receive(1, 1), 2);
        dueRecord(x, 2, KIND_SEND_ONCE, 4, 1);
        dueName(x, 1, 2, SEND, 1);
        dueName(x, 1, 3, SEND_ONCE, 1);
        dueName(x, 1, 4, SEND_ONCE, 1);
        duePort(x, 1, PORT_HELD, 1, 2);
        x.deallocate(1, 2);
        x.send(0, 1, 2, MAKE_SEND);
        due("receive(1, 1), no merge into SEND_ONCE", x.receive(1, 1), 3);
        dueRecord(x, 3, KIND_SEND, 2, 1);
        dueName(x, 1, 2, SEND, 1);
        dueName(x, 1, 3, SEND_ONCE, 1);
    }

    private static void receiveRight() {
        MachPortRights x = mailbox(8);
        x.giveSend(0, 2, 0);
        x.giveSend(0, 3, 1);
        x.send(0, 2, 0, DISP_NONE);
        x.requestNoSenders(0, 2);
        x.send(0, 1, 2, MOVE_RECEIVE);
        x.send(0, 1, 3, MOVE_RECEIVE);
        due("receive(1, 1), a new name", x.receive(1, 1), 2);
        dueRecord(x, 2, KIND_RECEIVE, 3, 1);
        dueName(x, 1, 3, RECEIVE, 1);
        dueName(x, 0, 2, SEND, 1);
        duePort(x, 1, PORT_HELD, 1, 0);
        due("isArmed(1)", x.isArmed(1), true);
        due("receive(1, 1), into SEND", x.receive(1, 1), 3);
        dueRecord(x, 3, KIND_RECEIVE, 2, 2);
        dueName(x, 1, 2, RECEIVE_SEND, 2);
        duePort(x, 2, PORT_HELD, 1, 0);
        due("receive(1, 3), the queue went along", x.receive(1, 3), 1);
        dueRecord(x, 1, KIND_NONE, 0, -1);
        MachPortRights y = mailbox(8);
        y.send(0, 1, 2, MAKE_SEND_ONCE);
        y.receive(1, 1);
        y.send(0, 1, 2, MOVE_RECEIVE);
        due("receive(1, 1), beside SEND_ONCE", y.receive(1, 1), 2);
        dueRecord(y, 2, KIND_RECEIVE, 3, 1);
        dueName(y, 1, 2, SEND_ONCE, 1);
    }

    private static void deadRightsVanish() {
        MachPortRights x = mailbox(4);
        x.giveSend(0, 2, 1);
        x.send(0, 1, 2, MAKE_SEND);
        x.send(0, 1, 2, MAKE_SEND_ONCE);
        x.send(0, 1, 3, MAKE_SEND);
        x.destroyReceive(0, 2);
        x.destroyReceive(0, 3);
        x.allocate(1);
        x.allocate(1);
        dueMessage(x, 0, 0, 1, KIND_SEND, 1);
        due("receive(1, 1), all names taken", x.receive(1, 1), 1);
        dueRecord(x, 1, KIND_DEAD, 0, 1);
        dueName(x, 1, 2, DEAD, 1);
        duePort(x, 1, PORT_DEAD, 0, 0);
        due("receive(1, 1)", x.receive(1, 1), 2);
        dueRecord(x, 2, KIND_DEAD, 0, 1);
        duePort(x, 1, PORT_DEAD, 0, 0);
        due("receive(1, 1)", x.receive(1, 1), 3);
        dueRecord(x, 3, KIND_DEAD, 0, 2);
        duePort(x, 2, PORT_DEAD, 0, 0);
        due("queueLength(0)", x.queueLength(0), 0);
    }

    private static void fullTask() {
        int[] needing = {MAKE_SEND, MAKE_SEND_ONCE, MOVE_RECEIVE};
        for (int disp : needing) {
            MachPortRights x = mailbox(4);
            x.send(0, 1, 2, disp);
            x.send(0, 1, 0, DISP_NONE);
            x.allocate(1);
            x.allocate(1);
            x.allocate(1);
            refused(x, "receive(1, 1) of disposition " + disp, () -> x.receive(1, 1), ERR_FULL);
            x.destroyReceive(1, 3);
            due("receive(1, 1) of disposition " + disp, x.receive(1, 1), 1);
            due("lastReceived(2)", x.lastReceived(2), 3);
            x.allocate(1);
            due("receive(1, 1) without a right", x.receive(1, 1), 2);
        }
        MachPortRights y = mailbox(4);
        y.giveSend(0, 2, 1);
        y.allocate(1);
        y.allocate(1);
        y.send(0, 1, 2, MAKE_SEND);
        y.send(0, 1, 2, MAKE_SEND_ONCE);
        due("receive(1, 1), merged", y.receive(1, 1), 1);
        dueRecord(y, 1, KIND_SEND, 2, 1);
        refused(y, "receive(1, 1), send-once never merges", () -> y.receive(1, 1), ERR_FULL);
        y.destroyReceive(1, 4);
        y.receive(1, 1);
        y.send(0, 1, 2, MOVE_RECEIVE);
        due("receive(1, 1), receive right into SEND", y.receive(1, 1), 3);
        dueRecord(y, 3, KIND_RECEIVE, 2, 1);
    }

    private static void wrongInputs() {
        MachPortRights x = mailbox(4);
        x.send(0, 1, 0, DISP_NONE);
        refused(x, "receive(-1, 1)", () -> x.receive(-1, 1), ERR_TASK);
        refused(x, "receive(2, 9)", () -> x.receive(2, 9), ERR_TASK);
        refused(x, "receive(1, 0)", () -> x.receive(1, 0), ERR_NAME);
        refused(x, "receive(1, 5)", () -> x.receive(1, 5), ERR_NAME);
        refused(x, "receive(1, least)", () -> x.receive(1, Integer.MIN_VALUE), ERR_NAME);
        refused(x, "receive(1, greatest)", () -> x.receive(1, Integer.MAX_VALUE), ERR_NAME);
        refused(x, "receive(1, 2), free", () -> x.receive(1, 2), ERR_NAME);
        refused(x, "receive(0, 1), SEND", () -> x.receive(0, 1), ERR_NAME);
        refused(x, "receive(0, 2), empty", () -> x.receive(0, 2), ERR_EMPTY);
        x.destroyReceive(1, 1);
        refused(x, "receive(0, 1), DEAD", () -> x.receive(0, 1), ERR_NAME);
    }
}
