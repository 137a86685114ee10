/** Promise 3: giveSend. */
final class GiveSendTest extends Checks {
    public static void main(String[] args) {
        toAnotherTask();
        toTheSameTask();
        mergeTouchesNoNotice();
        sendOnceAndDeadNamesDoNotMerge();
        fullTask();
        wrongInputs();
        end();
    }

    private static void toAnotherTask() {
        MachPortRights x = new MachPortRights(3, 8, 8, 4);
        x.allocate(1);
        x.allocate(0);
        due("giveSend(0, 1, 1)", x.giveSend(0, 1, 1), 2);
        dueName(x, 1, 2, SEND, 1);
        dueName(x, 0, 1, RECEIVE, 1);
        duePort(x, 1, PORT_HELD, 1, 0);
        due("giveSend(0, 1, 2)", x.giveSend(0, 1, 2), 1);
        duePort(x, 1, PORT_HELD, 2, 0);
        due("giveSend(0, 1, 1), merged", x.giveSend(0, 1, 1), 2);
        dueName(x, 1, 2, SEND, 1);
        dueName(x, 1, 3, 0, -1);
        duePort(x, 1, PORT_HELD, 2, 0);
        duePort(x, 0, PORT_HELD, 0, 0);
        due("queueLength(1)", x.queueLength(1), 0);
        due("requestNoSenders(1, 1), the first message", x.requestNoSenders(1, 1), 1);
    }

    private static void toTheSameTask() {
        MachPortRights x = new MachPortRights(2, 8, 8, 4);
        x.allocate(0);
        x.allocate(0);
        due("giveSend(0, 2, 0)", x.giveSend(0, 2, 0), 2);
        dueName(x, 0, 2, RECEIVE_SEND, 1);
        dueName(x, 0, 3, 0, -1);
        duePort(x, 1, PORT_HELD, 1, 0);
        due("giveSend(0, 2, 0), merged", x.giveSend(0, 2, 0), 2);
        dueName(x, 0, 2, RECEIVE_SEND, 1);
        duePort(x, 1, PORT_HELD, 1, 0);
        due("giveSend(0, 2, 1) from RECEIVE|SEND", x.giveSend(0, 2, 1), 1);
        duePort(x, 1, PORT_HELD, 2, 0);
    }

    private static void mergeTouchesNoNotice() {
        MachPortRights x = new MachPortRights(2, 8, 8, 4);
        x.allocate(0);
        x.giveSend(0, 1, 1);
        x.requestNoSenders(0, 1);
        due("giveSend(0, 1, 1)", x.giveSend(0, 1, 1), 1);
        due("isArmed(0)", x.isArmed(0), true);
        due("queueLength(0)", x.queueLength(0), 0);
    }

    private static void sendOnceAndDeadNamesDoNotMerge() {
        MachPortRights x = new MachPortRights(2, 8, 8, 4);
        x.allocate(1);
        x.giveSend(1, 1, 0);
        x.allocate(0);
        x.send(0, 1, 2, MAKE_SEND_ONCE);
        due("receive(1, 1)", x.receive(1, 1), 1);
        dueName(x, 1, 2, SEND_ONCE, 1);
        due("giveSend(0, 2, 1)", x.giveSend(0, 2, 1), 3);
        dueName(x, 1, 2, SEND_ONCE, 1);
        dueName(x, 1, 3, SEND, 1);
        duePort(x, 1, PORT_HELD, 1, 1);
        x.destroyReceive(0, 2);
        x.allocate(0);
        due("giveSend(0, 2, 1) beside dead names", x.giveSend(0, 2, 1), 4);
        refused(x, "giveSend(1, 2, 0) from DEAD", () -> x.giveSend(1, 2, 0), ERR_NAME);
    }

    private static void fullTask() {
        MachPortRights x = new MachPortRights(2, 16, 4, 4);
        x.allocate(0);
        x.allocate(0);
        x.giveSend(0, 1, 1);
        x.allocate(1);
        x.allocate(1);
        x.allocate(1);
        refused(x, "giveSend(0, 2, 1)", () -> x.giveSend(0, 2, 1), ERR_FULL);
        due("giveSend(0, 1, 1), merged", x.giveSend(0, 1, 1), 1);
        due("giveSend(1, 4, 1), own name", x.giveSend(1, 4, 1), 4);
        dueName(x, 1, 4, RECEIVE_SEND, 4);
    }

    private static void wrongInputs() {
        MachPortRights x = new MachPortRights(2, 8, 4, 4);
        x.allocate(0);
        x.giveSend(0, 1, 1);
        refused(x, "giveSend(2, 1, 0)", () -> x.giveSend(2, 1, 0), ERR_TASK);
        refused(x, "giveSend(-1, 9, 9)", () -> x.giveSend(-1, 9, 9), ERR_TASK);
        refused(x, "giveSend(0, 0, 1)", () -> x.giveSend(0, 0, 1), ERR_NAME);
        refused(x, "giveSend(0, 5, 1)", () -> x.giveSend(0, 5, 1), ERR_NAME);
        refused(x, "giveSend(0, 2, 1), free", () -> x.giveSend(0, 2, 1), ERR_NAME);
        refused(x, "giveSend(1, 1, 0), SEND", () -> x.giveSend(1, 1, 0), ERR_NAME);
        refused(x, "giveSend(1, 1, 9), SEND", () -> x.giveSend(1, 1, 9), ERR_NAME);
        refused(x, "giveSend(0, least, 1)", () -> x.giveSend(0, Integer.MIN_VALUE, 1), ERR_NAME);
        refused(x, "giveSend(0, greatest, 1)", () -> x.giveSend(0, Integer.MAX_VALUE, 1), ERR_NAME);
        refused(x, "giveSend(0, 1, 2)", () -> x.giveSend(0, 1, 2), ERR_ARG);
        refused(x, "giveSend(0, 1, -1)", () -> x.giveSend(0, 1, -1), ERR_ARG);
        due("requestNoSenders(0, 1)", x.requestNoSenders(0, 1), OK);
    }
}
