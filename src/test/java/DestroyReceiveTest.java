/** Promise 7: destroyReceive, with the death of the shared rules. */
final class DestroyReceiveTest extends Checks {
    public static void main(String[] args) {
        namesOfTheDead();
        deadPortStaysDead();
        carriedRightsAreReleased();
        portsThatRideDieToo();
        worklistIsFirstInFirstOut();
        noticeOfOneThatDiesLater();
        deadPortGetsNoNotice();
        ownQueue();
        wrongInputs();
        end();
    }

    private static void namesOfTheDead() {
        MachPortRights x = new MachPortRights(3, 8, 8, 4);
        x.allocate(0);
        x.allocate(0);
        x.giveSend(0, 1, 1);
        x.giveSend(0, 2, 0);
        x.send(0, 2, 1, MAKE_SEND_ONCE);
        x.receive(0, 2);
        dueName(x, 0, 3, SEND_ONCE, 0);
        due("destroyReceive(0, 1)", x.destroyReceive(0, 1), 1);
        dueName(x, 0, 1, 0, -1);
        dueName(x, 1, 1, DEAD, 0);
        dueName(x, 0, 3, DEAD, 0);
        dueName(x, 0, 2, RECEIVE_SEND, 1);
        duePort(x, 0, PORT_DEAD, 0, 0);
        duePort(x, 1, PORT_HELD, 1, 0);
        due("destroyReceive(0, 2), RECEIVE|SEND", x.destroyReceive(0, 2), 1);
        dueName(x, 0, 2, DEAD, 1);
        duePort(x, 1, PORT_DEAD, 0, 0);
    }

    private static void deadPortStaysDead() {
        MachPortRights x = new MachPortRights(2, 8, 8, 4);
        x.allocate(0);
        x.giveSend(0, 1, 1);
        x.requestNoSenders(0, 1);
        x.send(1, 1, 0, DISP_NONE);
        x.destroyReceive(0, 1);
        due("isArmed(0)", x.isArmed(0), false);
        due("queueLength(0)", x.queueLength(0), 0);
        due("queueAt(0, 0, 0)", x.queueAt(0, 0, 0), -1);
        x.deallocate(1, 1);
        duePort(x, 0, PORT_DEAD, 0, 0);
        due("queueLength(0)", x.queueLength(0), 0);
        x.allocate(0);
        due("requestNoSenders(0, 1), the death used no id", x.requestNoSenders(0, 1), 2);
        dueRecord(x, 0, KIND_NONE, 0, -1);
    }

    private static void carriedRightsAreReleased() {
        MachPortRights x = new MachPortRights(2, 8, 8, 4);
        for (int name = 1; name <= 4; name++) {
            x.allocate(0);
        }
        x.giveSend(0, 1, 0);
        x.send(0, 1, 2, MAKE_SEND);
        x.send(0, 1, 3, MAKE_SEND_ONCE);
        x.send(0, 1, 4, MAKE_SEND);
        x.send(0, 1, 2, MAKE_SEND);
        x.requestNoSenders(0, 4);
        x.requestNoSenders(0, 2);
        due("destroyReceive(0, 1)", x.destroyReceive(0, 1), 1);
        duePort(x, 1, PORT_HELD, 0, 0);
        duePort(x, 2, PORT_HELD, 0, 0);
        duePort(x, 3, PORT_HELD, 0, 0);
        dueMessage(x, 3, 0, 5, KIND_NOTICE, -1);
        dueMessage(x, 1, 0, 6, KIND_NOTICE, -1);
        due("isArmed(3)", x.isArmed(3), false);
        due("isArmed(1)", x.isArmed(1), false);
        due("queueLength(2)", x.queueLength(2), 0);
    }

    private static void portsThatRideDieToo() {
        MachPortRights x = new MachPortRights(2, 8, 8, 4);
        for (int name = 1; name <= 4; name++) {
            x.allocate(0);
            x.giveSend(0, name, 0);
        }
        x.giveSend(0, 3, 1);
        x.send(0, 4, 3, MAKE_SEND);
        x.send(0, 2, 3, MOVE_RECEIVE);
        x.send(0, 1, 2, MOVE_RECEIVE);
        due("destroyReceive(0, 1)", x.destroyReceive(0, 1), 3);
        for (int port = 0; port < 3; port++) {
            duePort(x, port, PORT_DEAD, 0, 0);
            due("queueLength", x.queueLength(port), 0);
            dueName(x, 0, port + 1, DEAD, port);
        }
        dueName(x, 1, 1, DEAD, 2);
        duePort(x, 3, PORT_HELD, 1, 0);
        dueMessage(x, 3, 0, 1, KIND_SEND, 2);
        due("destroyReceive(0, 4), its message is for a dead port", x.destroyReceive(0, 4), 1);
        duePort(x, 2, PORT_DEAD, 0, 0);
    }

    private static void worklistIsFirstInFirstOut() {
        MachPortRights x = new MachPortRights(2, 8, 8, 4);
        for (int name = 1; name <= 6; name++) {
            x.allocate(0);
            x.giveSend(0, name, 0);
        }
        x.send(0, 3, 5, MOVE_SEND);
        x.send(0, 4, 6, MOVE_SEND);
        x.requestNoSenders(0, 5);
        x.requestNoSenders(0, 6);
        x.send(0, 2, 4, MOVE_RECEIVE);
        x.send(0, 1, 2, MOVE_RECEIVE);
        due("send(0, 1, 3, 1)", x.send(0, 1, 3, MOVE_RECEIVE), 5);
        due("destroyReceive(0, 1)", x.destroyReceive(0, 1), 4);
        dueMessage(x, 4, 0, 6, KIND_NOTICE, -1);
        dueMessage(x, 5, 0, 7, KIND_NOTICE, -1);
    }

    /** Task 0 has ports 0 and 1 at names 1 and 2, both RECEIVE|SEND, and port 2 at name 3. */
    private static MachPortRights threePorts() {
        MachPortRights x = new MachPortRights(2, 8, 8, 4);
        x.allocate(0);
        x.allocate(0);
        x.allocate(0);
        x.giveSend(0, 1, 0);
        x.giveSend(0, 2, 0);
        return x;
    }

    private static void noticeOfOneThatDiesLater() {
        MachPortRights x = threePorts();
        x.requestNoSenders(0, 2);
        x.send(0, 1, 2, MOVE_SEND);
        due("send(0, 1, 2, 1)", x.send(0, 1, 2, MOVE_RECEIVE), 2);
        due("destroyReceive(0, 1)", x.destroyReceive(0, 1), 2);
        duePort(x, 1, PORT_DEAD, 0, 0);
        due("queueLength(1)", x.queueLength(1), 0);
        due("requestNoSenders(0, 3), id 3 is used up", x.requestNoSenders(0, 3), 4);
        MachPortRights y = threePorts();
        y.requestNoSenders(0, 2);
        y.send(0, 1, 2, MOVE_RECEIVE);
        due("send(0, 1, 2, 2), after the receive right", y.send(0, 1, 2, MOVE_SEND), 2);
        due("destroyReceive(0, 1)", y.destroyReceive(0, 1), 2);
        duePort(y, 1, PORT_DEAD, 0, 0);
        due("queueLength(1)", y.queueLength(1), 0);
        due("requestNoSenders(0, 3), id 3 is used up", y.requestNoSenders(0, 3), 4);
    }

    private static void deadPortGetsNoNotice() {
        MachPortRights x = threePorts();
        x.requestNoSenders(0, 1);
        x.send(0, 2, 1, COPY_SEND);
        due("send(0, 1, 2, 1)", x.send(0, 1, 2, MOVE_RECEIVE), 2);
        x.deallocate(0, 1);
        duePort(x, 0, PORT_HELD, 1, 0);
        due("isArmed(0)", x.isArmed(0), true);
        due("destroyReceive(0, 1)", x.destroyReceive(0, 1), 2);
        duePort(x, 0, PORT_DEAD, 0, 0);
        due("queueLength(0)", x.queueLength(0), 0);
        due("requestNoSenders(0, 3), no notice was made", x.requestNoSenders(0, 3), 3);
    }

    private static void ownQueue() {
        MachPortRights x = new MachPortRights(2, 8, 8, 4);
        x.allocate(0);
        x.allocate(0);
        x.giveSend(0, 1, 0);
        x.send(0, 1, 1, MAKE_SEND_ONCE);
        x.send(0, 1, 1, COPY_SEND);
        x.requestNoSenders(0, 1);
        due("destroyReceive(0, 1)", x.destroyReceive(0, 1), 1);
        duePort(x, 0, PORT_DEAD, 0, 0);
        due("isArmed(0)", x.isArmed(0), false);
        due("queueLength(0)", x.queueLength(0), 0);
        due("requestNoSenders(0, 2), no notice was made", x.requestNoSenders(0, 2), 3);
    }

    private static void wrongInputs() {
        MachPortRights x = new MachPortRights(2, 8, 4, 4);
        x.allocate(0);
        x.giveSend(0, 1, 1);
        refused(x, "destroyReceive(-1, 1)", () -> x.destroyReceive(-1, 1), ERR_TASK);
        refused(x, "destroyReceive(2, 9)", () -> x.destroyReceive(2, 9), ERR_TASK);
        refused(x, "destroyReceive(0, 0)", () -> x.destroyReceive(0, 0), ERR_NAME);
        refused(x, "destroyReceive(0, 5)", () -> x.destroyReceive(0, 5), ERR_NAME);
        refused(x, "destroyReceive(0, least)", () -> x.destroyReceive(0, Integer.MIN_VALUE), ERR_NAME);
        refused(x, "destroyReceive(0, greatest)", () -> x.destroyReceive(0, Integer.MAX_VALUE), ERR_NAME);
        refused(x, "destroyReceive(0, 2), free", () -> x.destroyReceive(0, 2), ERR_NAME);
        refused(x, "destroyReceive(1, 1), SEND", () -> x.destroyReceive(1, 1), ERR_NAME);
        x.destroyReceive(0, 1);
        refused(x, "destroyReceive(1, 1), DEAD", () -> x.destroyReceive(1, 1), ERR_NAME);
    }
}
