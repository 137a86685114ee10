/** Promise 6: deallocate. */
final class DeallocateTest extends Checks {
    public static void main(String[] args) {
        sendNames();
        sendOnceAndDeadNames();
        noSendersRule();
        wrongInputs();
        end();
    }

    private static void sendNames() {
        MachPortRights x = new MachPortRights(2, 8, 8, 4);
        x.allocate(0);
        x.giveSend(0, 1, 0);
        x.giveSend(0, 1, 1);
        due("deallocate(1, 1), SEND", x.deallocate(1, 1), OK);
        dueName(x, 1, 1, 0, -1);
        duePort(x, 0, PORT_HELD, 1, 0);
        due("deallocate(0, 1), RECEIVE|SEND", x.deallocate(0, 1), OK);
        dueName(x, 0, 1, RECEIVE, 0);
        duePort(x, 0, PORT_HELD, 0, 0);
        due("queueLength(0), not armed", x.queueLength(0), 0);
        refused(x, "deallocate(0, 1), RECEIVE", () -> x.deallocate(0, 1), ERR_NAME);
        refused(x, "deallocate(1, 1), free", () -> x.deallocate(1, 1), ERR_NAME);
    }

    private static void sendOnceAndDeadNames() {
        MachPortRights x = new MachPortRights(2, 8, 8, 4);
        x.allocate(0);
        x.allocate(0);
        x.giveSend(0, 1, 0);
        x.send(0, 1, 2, MAKE_SEND_ONCE);
        x.send(0, 1, 2, MAKE_SEND_ONCE);
        x.receive(0, 1);
        x.receive(0, 1);
        x.giveSend(0, 2, 1);
        due("deallocate(0, 3), SEND_ONCE", x.deallocate(0, 3), OK);
        dueName(x, 0, 3, 0, -1);
        dueName(x, 0, 4, SEND_ONCE, 1);
        duePort(x, 1, PORT_HELD, 1, 1);
        x.destroyReceive(0, 2);
        due("deallocate(0, 4), DEAD", x.deallocate(0, 4), OK);
        dueName(x, 0, 4, 0, -1);
        due("deallocate(1, 1), DEAD", x.deallocate(1, 1), OK);
        dueName(x, 1, 1, 0, -1);
        duePort(x, 1, PORT_DEAD, 0, 0);
        due("queueLength(1)", x.queueLength(1), 0);
    }

    private static void noSendersRule() {
        MachPortRights x = new MachPortRights(3, 8, 8, 2);
        x.allocate(0);
        x.giveSend(0, 1, 1);
        x.giveSend(0, 1, 2);
        x.send(1, 1, 0, DISP_NONE);
        x.send(1, 1, 0, DISP_NONE);
        x.requestNoSenders(0, 1);
        x.deallocate(1, 1);
        due("isArmed(0), one sender left", x.isArmed(0), true);
        due("queueLength(0)", x.queueLength(0), 2);
        due("deallocate(2, 1)", x.deallocate(2, 1), OK);
        due("isArmed(0)", x.isArmed(0), false);
        due("queueLength(0), beyond Q", x.queueLength(0), 3);
        dueMessage(x, 0, 2, 3, KIND_NOTICE, -1);
        x.giveSend(0, 1, 0);
        x.deallocate(0, 1);
        due("queueLength(0), one notice for one request", x.queueLength(0), 3);
        MachPortRights y = new MachPortRights(2, 8, 8, 2);
        y.allocate(0);
        y.giveSend(0, 1, 0);
        y.requestNoSenders(0, 1);
        y.deallocate(0, 1);
        dueMessage(y, 0, 0, 1, KIND_NOTICE, -1);
        dueName(y, 0, 1, RECEIVE, 0);
    }

    private static void wrongInputs() {
        MachPortRights x = new MachPortRights(2, 8, 4, 4);
        x.allocate(0);
        x.giveSend(0, 1, 1);
        refused(x, "deallocate(-1, 1)", () -> x.deallocate(-1, 1), ERR_TASK);
        refused(x, "deallocate(2, 9)", () -> x.deallocate(2, 9), ERR_TASK);
        refused(x, "deallocate(1, 0)", () -> x.deallocate(1, 0), ERR_NAME);
        refused(x, "deallocate(1, 5)", () -> x.deallocate(1, 5), ERR_NAME);
        refused(x, "deallocate(1, least)", () -> x.deallocate(1, Integer.MIN_VALUE), ERR_NAME);
        refused(x, "deallocate(1, greatest)", () -> x.deallocate(1, Integer.MAX_VALUE), ERR_NAME);
    }
}
