/** Promise 4: send. */
final class SendTest extends Checks {
    public static void main(String[] args) {
        dispositionsThatKeepTheName();
        moveSend();
        moveReceive();
        sendOnceDestination();
        moveSendOnce();
        cyclesAreRefused();
        fullQueueAndNotice();
        wrongTaskDestAndDisp();
        wrongCarry();
        orderOfRefusals();
        end();
    }

    /** Task 0 has ports 0 and 1 at names 1 and 2, task 1 port 2 at its name 1, and task 0 a send right to it at 3. */
    private static MachPortRights twoTasks() {
        MachPortRights x = new MachPortRights(2, 8, 8, 4);
        x.allocate(0);
        x.allocate(0);
        x.allocate(1);
        due("giveSend(1, 1, 0)", x.giveSend(1, 1, 0), 3);
        return x;
    }

    /** As twoTasks, and task 0 has send-once rights for its own port 0 at names 4 and 5; two ids are used. */
    private static MachPortRights twoSendOnces() {
        MachPortRights x = twoTasks();
        due("giveSend(0, 2, 0)", x.giveSend(0, 2, 0), 2);
        due("send(0, 2, 1, 6)", x.send(0, 2, 1, MAKE_SEND_ONCE), 1);
        due("send(0, 2, 1, 6)", x.send(0, 2, 1, MAKE_SEND_ONCE), 2);
        due("receive(0, 2)", x.receive(0, 2), 1);
        due("receive(0, 2)", x.receive(0, 2), 2);
        dueName(x, 0, 4, SEND_ONCE, 0);
        dueName(x, 0, 5, SEND_ONCE, 0);
        duePort(x, 0, PORT_HELD, 0, 2);
        return x;
    }

    private static void dispositionsThatKeepTheName() {
        MachPortRights x = twoTasks();
        due("send(0, 3, 99, 0), carry ignored", x.send(0, 3, 99, DISP_NONE), 1);
        dueMessage(x, 2, 0, 1, KIND_NONE, -1);
        due("send(0, 3, 1, 4)", x.send(0, 3, 1, MAKE_SEND), 2);
        dueMessage(x, 2, 1, 2, KIND_SEND, 0);
        dueName(x, 0, 1, RECEIVE, 0);
        duePort(x, 0, PORT_HELD, 1, 0);
        due("send(0, 3, 3, 3), carry is dest", x.send(0, 3, 3, COPY_SEND), 3);
        dueMessage(x, 2, 2, 3, KIND_SEND, 2);
        dueName(x, 0, 3, SEND, 2);
        duePort(x, 2, PORT_HELD, 2, 0);
        due("send(0, 3, 1, 6)", x.send(0, 3, 1, MAKE_SEND_ONCE), 4);
        dueMessage(x, 2, 3, 4, KIND_SEND_ONCE, 0);
        duePort(x, 0, PORT_HELD, 1, 1);
        dueName(x, 0, 1, RECEIVE, 0);
        due("queueLength(2)", x.queueLength(2), 4);
        dueRecord(x, 0, KIND_NONE, 0, -1);
    }

    private static void moveSend() {
        MachPortRights x = twoTasks();
        x.giveSend(0, 1, 0);
        x.giveSend(0, 2, 0);
        x.requestNoSenders(0, 1);
        due("send(0, 3, 1, 2) from RECEIVE|SEND", x.send(0, 3, 1, MOVE_SEND), 1);
        dueName(x, 0, 1, RECEIVE, 0);
        duePort(x, 0, PORT_HELD, 1, 0);
        due("isArmed(0): the count has not dropped", x.isArmed(0), true);
        dueMessage(x, 2, 0, 1, KIND_SEND, 0);
        due("send(0, 2, 3, 2) from SEND", x.send(0, 2, 3, MOVE_SEND), 2);
        dueName(x, 0, 3, 0, -1);
        duePort(x, 2, PORT_HELD, 1, 0);
        dueMessage(x, 1, 0, 2, KIND_SEND, 2);
    }

    private static void moveReceive() {
        MachPortRights x = twoTasks();
        x.giveSend(0, 1, 0);
        x.send(0, 1, 0, DISP_NONE);
        x.requestNoSenders(0, 1);
        due("send(0, 3, 1, 1) from RECEIVE|SEND", x.send(0, 3, 1, MOVE_RECEIVE), 2);
        dueName(x, 0, 1, SEND, 0);
        duePort(x, 0, PORT_IN_TRANSIT, 1, 0);
        due("isArmed(0)", x.isArmed(0), true);
        dueMessage(x, 0, 0, 1, KIND_NONE, -1);
        dueMessage(x, 2, 0, 2, KIND_RECEIVE, 0);
        due("send(0, 3, 2, 1) from RECEIVE", x.send(0, 3, 2, MOVE_RECEIVE), 3);
        dueName(x, 0, 2, 0, -1);
        duePort(x, 1, PORT_IN_TRANSIT, 0, 0);
        dueMessage(x, 2, 1, 3, KIND_RECEIVE, 1);
        due("send(0, 1, 0, 0) to a port in transit", x.send(0, 1, 0, DISP_NONE), 4);
        due("queueLength(0)", x.queueLength(0), 2);
        due("deallocate(0, 1)", x.deallocate(0, 1), OK);
        dueMessage(x, 0, 2, 5, KIND_NOTICE, -1);
    }

    private static void sendOnceDestination() {
        MachPortRights x = twoSendOnces();
        due("send(0, 4, 0, 0)", x.send(0, 4, 0, DISP_NONE), 3);
        dueName(x, 0, 4, 0, -1);
        duePort(x, 0, PORT_HELD, 0, 1);
        dueMessage(x, 0, 0, 3, KIND_NONE, -1);
        refused(x, "send(0, 4, 0, 0) again", () -> x.send(0, 4, 0, DISP_NONE), ERR_NAME);
        due("send(0, 5, 1, 6), its last", x.send(0, 5, 1, MAKE_SEND_ONCE), 4);
        dueName(x, 0, 5, 0, -1);
        duePort(x, 0, PORT_HELD, 0, 1);
        dueMessage(x, 0, 1, 4, KIND_SEND_ONCE, 0);
    }

    private static void moveSendOnce() {
        MachPortRights x = twoSendOnces();
        refused(x, "send(0, 4, 4, 5)", () -> x.send(0, 4, 4, MOVE_SEND_ONCE), ERR_ARG);
        due("send(0, 4, 5, 5), both for one port", x.send(0, 4, 5, MOVE_SEND_ONCE), 3);
        dueName(x, 0, 4, 0, -1);
        dueName(x, 0, 5, 0, -1);
        duePort(x, 0, PORT_HELD, 0, 1);
        dueMessage(x, 0, 0, 3, KIND_SEND_ONCE, 0);
        MachPortRights y = twoSendOnces();
        due("send(0, 3, 4, 5)", y.send(0, 3, 4, MOVE_SEND_ONCE), 3);
        dueName(y, 0, 4, 0, -1);
        duePort(y, 0, PORT_HELD, 0, 2);
        dueMessage(y, 2, 0, 3, KIND_SEND_ONCE, 0);
    }

    private static void cyclesAreRefused() {
        MachPortRights x = new MachPortRights(2, 8, 8, 4);
        for (int name = 1; name <= 4; name++) {
            x.allocate(0);
            x.giveSend(0, name, 0);
        }
        refused(x, "send(0, 1, 1, 1) into itself", () -> x.send(0, 1, 1, MOVE_RECEIVE), ERR_CYCLE);
        due("send(0, 2, 1, 1)", x.send(0, 2, 1, MOVE_RECEIVE), 1);
        refused(x, "send(0, 1, 2, 1), one step", () -> x.send(0, 1, 2, MOVE_RECEIVE), ERR_CYCLE);
        due("send(0, 3, 2, 1)", x.send(0, 3, 2, MOVE_RECEIVE), 2);
        refused(x, "send(0, 1, 3, 1), two steps", () -> x.send(0, 1, 3, MOVE_RECEIVE), ERR_CYCLE);
        refused(x, "send(0, 2, 3, 1), one step", () -> x.send(0, 2, 3, MOVE_RECEIVE), ERR_CYCLE);
        due("send(0, 1, 4, 1), no cycle", x.send(0, 1, 4, MOVE_RECEIVE), 3);
        refused(x, "send(0, 4, 3, 1), three steps", () -> x.send(0, 4, 3, MOVE_RECEIVE), ERR_CYCLE);
        due("send(0, 4, 3, 4), only MOVE_RECEIVE counts", x.send(0, 4, 3, MAKE_SEND), 4);
        due("receive(0, 3)", x.receive(0, 3), 2);
        due("send(0, 1, 3, 1), the chain is cut", x.send(0, 1, 3, MOVE_RECEIVE), 5);
        duePort(x, 2, PORT_IN_TRANSIT, 2, 0);
    }

    private static void fullQueueAndNotice() {
        MachPortRights x = new MachPortRights(2, 4, 4, 2);
        x.allocate(0);
        x.requestNoSenders(0, 1);
        x.giveSend(0, 1, 1);
        due("send(1, 1, 0, 0) beside a notice", x.send(1, 1, 0, DISP_NONE), 2);
        due("send(1, 1, 0, 0) beside a notice", x.send(1, 1, 0, DISP_NONE), 3);
        refused(x, "send(1, 1, 0, 0), full", () -> x.send(1, 1, 0, DISP_NONE), ERR_FULL);
        due("queueLength(0)", x.queueLength(0), 3);
        due("receive(0, 1), the notice", x.receive(0, 1), 1);
        refused(x, "send(1, 1, 0, 0), still full", () -> x.send(1, 1, 0, DISP_NONE), ERR_FULL);
        due("receive(0, 1)", x.receive(0, 1), 2);
        due("send(1, 1, 0, 0)", x.send(1, 1, 0, DISP_NONE), 4);
        dueMessage(x, 0, 0, 3, KIND_NONE, -1);
        dueMessage(x, 0, 1, 4, KIND_NONE, -1);
    }

    private static void wrongTaskDestAndDisp() {
        MachPortRights x = twoTasks();
        refused(x, "send(-1, 3, 1, 0)", () -> x.send(-1, 3, 1, DISP_NONE), ERR_TASK);
        refused(x, "send(2, 0, 0, 9)", () -> x.send(2, 0, 0, 9), ERR_TASK);
        refused(x, "send(0, 0, 1, 0)", () -> x.send(0, 0, 1, DISP_NONE), ERR_NAME);
        refused(x, "send(0, 9, 1, 0)", () -> x.send(0, 9, 1, DISP_NONE), ERR_NAME);
        refused(x, "send(0, least, 1, 0)", () -> x.send(0, Integer.MIN_VALUE, 1, DISP_NONE), ERR_NAME);
        refused(x, "send(0, 8, 1, 0), free", () -> x.send(0, 8, 1, DISP_NONE), ERR_NAME);
        refused(x, "send(0, 1, 1, 0), RECEIVE", () -> x.send(0, 1, 1, DISP_NONE), ERR_NAME);
        refused(x, "send(0, 3, 1, -1)", () -> x.send(0, 3, 1, -1), ERR_ARG);
        refused(x, "send(0, 3, 1, 7)", () -> x.send(0, 3, 1, 7), ERR_ARG);
        refused(x, "send(0, 3, 1, greatest)", () -> x.send(0, 3, 1, Integer.MAX_VALUE), ERR_ARG);
        x.destroyReceive(1, 1);
        refused(x, "send(0, 3, 1, 0), DEAD", () -> x.send(0, 3, 1, DISP_NONE), ERR_NAME);
    }

    private static void wrongCarry() {
        MachPortRights x = twoSendOnces();
        x.allocate(1);
        due("giveSend(1, 2, 0)", x.giveSend(1, 2, 0), 6);
        x.destroyReceive(1, 2);
        int receiveName = 1;
        int sendName = 3;
        int sendOnceName = 4;
        int deadName = 6;
        int freeName = 7;
        int[][] lacking = {
            {MOVE_RECEIVE, sendName, sendOnceName}, {MOVE_SEND, receiveName, sendOnceName},
            {COPY_SEND, receiveName, sendOnceName}, {MAKE_SEND, sendName, sendOnceName},
            {MOVE_SEND_ONCE, receiveName, sendName}, {MAKE_SEND_ONCE, sendName, sendOnceName}};
        int[] never = {deadName, freeName, 0, 9, -1, Integer.MIN_VALUE, Integer.MAX_VALUE};
        for (int[] row : lacking) {
            int disp = row[0];
            for (int at = 1; at < row.length; at++) {
                int carry = row[at];
                refused(x, "send(0, 3, " + carry + ", " + disp + ")", () -> x.send(0, 3, carry, disp), ERR_NAME);
            }
            for (int carry : never) {
                refused(x, "send(0, 3, " + carry + ", " + disp + ")", () -> x.send(0, 3, carry, disp), ERR_NAME);
            }
        }
        refused(x, "send(0, 3, 2, 5), RECEIVE|SEND", () -> x.send(0, 3, 2, MOVE_SEND_ONCE), ERR_NAME);
        due("send(0, 3, 0, 0), no id was used up", x.send(0, 3, 0, DISP_NONE), 3);
    }

    private static void orderOfRefusals() {
        MachPortRights x = twoSendOnces();
        for (int turn = 0; turn < 4; turn++) {
            x.send(0, 3, 0, DISP_NONE);
            x.send(0, 2, 0, DISP_NONE);
        }
        refused(x, "dest before disp", () -> x.send(0, 1, 1, 7), ERR_NAME);
        refused(x, "disp before carry", () -> x.send(0, 3, 0, 7), ERR_ARG);
        refused(x, "carry's type before carry == dest", () -> x.send(0, 3, 3, MOVE_SEND_ONCE), ERR_NAME);
        refused(x, "carry's type before carry == dest", () -> x.send(0, 4, 4, MOVE_SEND), ERR_NAME);
        refused(x, "carry before full", () -> x.send(0, 3, 0, MOVE_SEND), ERR_NAME);
        refused(x, "carry == dest before full", () -> x.send(0, 3, 3, MOVE_SEND), ERR_ARG);
        refused(x, "cycle before full", () -> x.send(0, 2, 2, MOVE_RECEIVE), ERR_CYCLE);
        refused(x, "full", () -> x.send(0, 3, 2, MOVE_RECEIVE), ERR_FULL);
        refused(x, "full", () -> x.send(0, 3, 4, MOVE_SEND_ONCE), ERR_FULL);
        for (int turn = 0; turn < 4; turn++) {
            x.giveSend(0, 1, 0);
            x.send(0, 1, 0, DISP_NONE);
        }
        refused(x, "full, the send-once dest stays", () -> x.send(0, 4, 0, DISP_NONE), ERR_FULL);
    }
}
