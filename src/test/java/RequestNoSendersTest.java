/** Promise 8: requestNoSenders. */
final class RequestNoSendersTest extends Checks {
    public static void main(String[] args) {
        withoutSenders();
        withSenders();
        senderInAQueue();
        wrongInputs();
        end();
    }

    private static void withoutSenders() {
        MachPortRights x = new MachPortRights(2, 8, 8, 2);
        x.allocate(0);
        x.giveSend(0, 1, 0);
        x.send(0, 1, 0, DISP_NONE);
        x.send(0, 1, 0, DISP_NONE);
        x.deallocate(0, 1);
        due("requestNoSenders(0, 1), queue full", x.requestNoSenders(0, 1), 3);
        due("isArmed(0)", x.isArmed(0), false);
        due("queueLength(0)", x.queueLength(0), 3);
        dueMessage(x, 0, 2, 3, KIND_NOTICE, -1);
        refused(x, "requestNoSenders(0, 1), notice queued", () -> x.requestNoSenders(0, 1), ERR_STATE);
        x.giveSend(0, 1, 0);
        refused(x, "requestNoSenders(0, 1), notice queued, S is 1", () -> x.requestNoSenders(0, 1), ERR_STATE);
        x.receive(0, 1);
        x.receive(0, 1);
        refused(x, "requestNoSenders(0, 1), notice at the head", () -> x.requestNoSenders(0, 1), ERR_STATE);
        x.receive(0, 1);
        due("requestNoSenders(0, 1), notice taken", x.requestNoSenders(0, 1), OK);
        due("isArmed(0)", x.isArmed(0), true);
    }

    private static void withSenders() {
        MachPortRights x = new MachPortRights(2, 8, 8, 2);
        x.allocate(0);
        x.giveSend(0, 1, 1);
        due("requestNoSenders(0, 1)", x.requestNoSenders(0, 1), OK);
        due("isArmed(0)", x.isArmed(0), true);
        due("queueLength(0)", x.queueLength(0), 0);
        refused(x, "requestNoSenders(0, 1), armed", () -> x.requestNoSenders(0, 1), ERR_STATE);
        due("send(1, 1, 0, 0), arming used no id", x.send(1, 1, 0, DISP_NONE), 1);
        x.deallocate(1, 1);
        dueMessage(x, 0, 1, 2, KIND_NOTICE, -1);
        refused(x, "requestNoSenders(0, 1), notice queued", () -> x.requestNoSenders(0, 1), ERR_STATE);
    }

    private static void senderInAQueue() {
        MachPortRights x = new MachPortRights(2, 8, 8, 4);
        x.allocate(0);
        x.allocate(0);
        x.giveSend(0, 1, 0);
        x.send(0, 1, 2, MAKE_SEND);
        due("requestNoSenders(0, 2), S is 1 by a message", x.requestNoSenders(0, 2), OK);
        x.send(0, 1, 2, MAKE_SEND_ONCE);
        x.receive(0, 1);
        due("isArmed(1), the right is in a name now", x.isArmed(1), true);
        dueName(x, 0, 2, RECEIVE_SEND, 1);
        x.deallocate(0, 2);
        due("isArmed(1), a send-once right does not count", x.isArmed(1), false);
        dueMessage(x, 1, 0, 3, KIND_NOTICE, -1);
    }

    private static void wrongInputs() {
        MachPortRights x = new MachPortRights(2, 8, 4, 4);
        x.allocate(0);
        x.giveSend(0, 1, 1);
        refused(x, "requestNoSenders(-1, 1)", () -> x.requestNoSenders(-1, 1), ERR_TASK);
        refused(x, "requestNoSenders(2, 9)", () -> x.requestNoSenders(2, 9), ERR_TASK);
        refused(x, "requestNoSenders(0, 0)", () -> x.requestNoSenders(0, 0), ERR_NAME);
        refused(x, "requestNoSenders(0, 5)", () -> x.requestNoSenders(0, 5), ERR_NAME);
        refused(x, "requestNoSenders(0, least)", () -> x.requestNoSenders(0, Integer.MIN_VALUE), ERR_NAME);
        refused(x, "requestNoSenders(0, greatest)", () -> x.requestNoSenders(0, Integer.MAX_VALUE), ERR_NAME);
        refused(x, "requestNoSenders(0, 2), free", () -> x.requestNoSenders(0, 2), ERR_NAME);
        refused(x, "requestNoSenders(1, 1), SEND", () -> x.requestNoSenders(1, 1), ERR_NAME);
        x.destroyReceive(0, 1);
        refused(x, "requestNoSenders(1, 1), DEAD", () -> x.requestNoSenders(1, 1), ERR_NAME);
    }
}
