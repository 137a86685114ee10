/** The shared rule "No-senders": when a notice comes, and when it does not. */
final class NoSendersRuleTest extends Checks {
    public static void main(String[] args) {
        lastSendNameDropped();
        lastReceiveSendNameDropped();
        lastQueuedRightDiscarded();
        notWhileOneIsLeft();
        notWhileNotArmed();
        onlyOnce();
        sendOnceRightsDoNotCount();
        movedAndMergedRightsStay();
        onAPortInTransit();
        atThatMoment();
        end();
    }

    /** Task 0 has port 0 at 1, task 1 port 1 at 1; both are armed, and each task can send to the other's, at 2. */
    private static MachPortRights armed() {
        MachPortRights x = new MachPortRights(2, 8, 8, 4);
        x.allocate(0);
        x.allocate(1);
        x.giveSend(0, 1, 1);
        x.giveSend(1, 1, 0);
        x.requestNoSenders(0, 1);
        x.requestNoSenders(1, 1);
        return x;
    }

    private static void dueNoticed(MachPortRights x, int port, int pos, int id) {
        due("isArmed(" + port + ")", x.isArmed(port), false);
        due("sendRights(" + port + ")", x.sendRights(port), 0);
        due("queueLength(" + port + ")", x.queueLength(port), pos + 1);
        dueMessage(x, port, pos, id, KIND_NOTICE, -1);
    }

    private static void dueStillArmed(MachPortRights x, int port, int sends, int length) {
        due("isArmed(" + port + ")", x.isArmed(port), true);
        due("sendRights(" + port + ")", x.sendRights(port), sends);
        due("queueLength(" + port + ")", x.queueLength(port), length);
    }

    /** "Whenever S(p) of a live port p drops from 1 to 0 while p is armed, armed becomes false and ... a notice". */
    private static void lastSendNameDropped() {
        MachPortRights x = armed();
        due("deallocate(1, 2)", x.deallocate(1, 2), OK);
        dueNoticed(x, 0, 0, 1);
        dueStillArmed(x, 1, 1, 0);
    }

    private static void lastReceiveSendNameDropped() {
        MachPortRights x = armed();
        x.giveSend(0, 1, 0);
        x.deallocate(1, 2);
        dueStillArmed(x, 0, 1, 0);
        due("deallocate(0, 1)", x.deallocate(0, 1), OK);
        dueNoticed(x, 0, 0, 1);
        dueName(x, 0, 1, RECEIVE, 0);
    }

    private static void lastQueuedRightDiscarded() {
        MachPortRights x = armed();
        x.giveSend(1, 1, 1);
        due("send(1, 1, 2, 2)", x.send(1, 1, 2, MOVE_SEND), 1);
        dueStillArmed(x, 0, 1, 0);
        due("destroyReceive(1, 1)", x.destroyReceive(1, 1), 1);
        dueNoticed(x, 0, 0, 2);
    }

    /** S drops from 2 to 1 by each of the ways it can. */
    private static void notWhileOneIsLeft() {
        MachPortRights x = armed();
        x.giveSend(0, 1, 0);
        x.deallocate(0, 1);
        dueStillArmed(x, 0, 1, 0);
        due("send(0, 2, 1, 4)", x.send(0, 2, 1, MAKE_SEND), 1);
        x.deallocate(1, 2);
        dueStillArmed(x, 0, 1, 0);
        x.giveSend(0, 1, 0);
        dueStillArmed(x, 0, 2, 0);
        x.destroyReceive(1, 1);
        dueStillArmed(x, 0, 1, 0);
        x.deallocate(0, 1);
        dueNoticed(x, 0, 0, 2);
    }

    private static void notWhileNotArmed() {
        MachPortRights x = new MachPortRights(2, 8, 8, 4);
        x.allocate(0);
        x.allocate(1);
        x.giveSend(0, 1, 1);
        x.deallocate(1, 2);
        duePort(x, 0, PORT_HELD, 0, 0);
        due("queueLength(0)", x.queueLength(0), 0);
        x.giveSend(0, 1, 0);
        x.deallocate(0, 1);
        due("queueLength(0)", x.queueLength(0), 0);
        x.giveSend(1, 1, 0);
        x.send(0, 2, 1, MAKE_SEND);
        x.destroyReceive(1, 1);
        duePort(x, 0, PORT_HELD, 0, 0);
        due("queueLength(0)", x.queueLength(0), 0);
        due("isArmed(0)", x.isArmed(0), false);
        due("requestNoSenders(0, 1), no id was used", x.requestNoSenders(0, 1), 2);
    }

    /** "armed becomes false": the second drop makes no second notice, until it is asked for again. */
    private static void onlyOnce() {
        MachPortRights x = armed();
        x.deallocate(1, 2);
        x.giveSend(0, 1, 1);
        due("isArmed(0), a new right arms nothing", x.isArmed(0), false);
        x.deallocate(1, 2);
        due("queueLength(0)", x.queueLength(0), 1);
        x.receive(0, 1);
        due("isArmed(0), taking the notice arms nothing", x.isArmed(0), false);
        x.giveSend(0, 1, 1);
        x.deallocate(1, 2);
        due("queueLength(0)", x.queueLength(0), 0);
        x.giveSend(0, 1, 1);
        due("requestNoSenders(0, 1)", x.requestNoSenders(0, 1), OK);
        x.deallocate(1, 2);
        dueNoticed(x, 0, 0, 2);
    }

    /** The rule is about S alone. */
    private static void sendOnceRightsDoNotCount() {
        MachPortRights x = armed();
        x.send(0, 2, 1, MAKE_SEND_ONCE);
        x.receive(1, 1);
        x.deallocate(1, 3);
        dueStillArmed(x, 0, 1, 0);
        x.send(0, 2, 1, MAKE_SEND_ONCE);
        x.receive(1, 1);
        due("send(1, 3, 0, 0), by SEND_ONCE", x.send(1, 3, 0, DISP_NONE), 3);
        dueStillArmed(x, 0, 1, 1);
        x.send(0, 2, 1, MAKE_SEND_ONCE);
        x.deallocate(1, 2);
        dueNoticed(x, 0, 1, 5);
        duePort(x, 0, PORT_HELD, 0, 1);
    }

    /** A right that is moved into a message, taken out or merged leaves one behind all the while. */
    private static void movedAndMergedRightsStay() {
        MachPortRights x = armed();
        x.giveSend(1, 1, 1);
        due("send(1, 1, 2, 2)", x.send(1, 1, 2, MOVE_SEND), 1);
        dueStillArmed(x, 0, 1, 0);
        due("receive(1, 1)", x.receive(1, 1), 1);
        dueStillArmed(x, 0, 1, 0);
        due("giveSend(0, 1, 1), merged", x.giveSend(0, 1, 1), 2);
        dueStillArmed(x, 0, 1, 0);
        x.send(1, 1, 2, COPY_SEND);
        dueStillArmed(x, 0, 2, 0);
        due("receive(1, 1), merged", x.receive(1, 1), 2);
        dueStillArmed(x, 0, 1, 0);
        x.giveSend(0, 1, 0);
        due("giveSend(0, 1, 0), merged", x.giveSend(0, 1, 0), 1);
        dueStillArmed(x, 0, 2, 0);
    }

    /** "a live port": one in transit is live. */
    private static void onAPortInTransit() {
        MachPortRights x = armed();
        due("send(0, 2, 1, 1)", x.send(0, 2, 1, MOVE_RECEIVE), 1);
        dueStillArmed(x, 0, 1, 0);
        due("deallocate(1, 2)", x.deallocate(1, 2), OK);
        dueNoticed(x, 0, 0, 2);
        duePort(x, 0, PORT_IN_TRANSIT, 0, 0);
        due("receive(1, 1)", x.receive(1, 1), 1);
        dueName(x, 1, 2, RECEIVE, 0);
        refused(x, "requestNoSenders(1, 2), the notice came along", () -> x.requestNoSenders(1, 2), ERR_STATE);
        due("receive(1, 2)", x.receive(1, 2), 2);
        dueRecord(x, 2, KIND_NOTICE, 0, -1);
    }

    /** "at that moment a notice is appended": behind what was there, before what comes. */
    private static void atThatMoment() {
        MachPortRights x = armed();
        x.send(1, 2, 0, DISP_NONE);
        x.send(1, 2, 0, DISP_NONE);
        x.deallocate(1, 2);
        x.giveSend(0, 1, 1);
        x.send(1, 2, 0, DISP_NONE);
        int[] kinds = {KIND_NONE, KIND_NONE, KIND_NOTICE, KIND_NONE};
        for (int pos = 0; pos < 4; pos++) {
            dueMessage(x, 0, pos, pos + 1, kinds[pos], -1);
        }
    }
}
