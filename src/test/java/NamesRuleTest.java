/** The shared rules "Names" and "Ports", each sentence at its edges. */
final class NamesRuleTest extends Checks {
    public static void main(String[] args) {
        oneSendRightInAName();
        oneNameForReceiveAndSend();
        everySendOnceRightHasItsName();
        freedByDeallocate();
        freedBySend();
        freedByDeath();
        leastFreeNameForEveryNewRight();
        deadPortHasNothing();
        deadNameCountsNothing();
        deadPortIsNotRevived();
        portInTransitKeepsAll();
        end();
    }

    /** "A name with SEND holds exactly one send right, never several": one deallocate ends it. */
    private static void oneSendRightInAName() {
        MachPortRights x = new MachPortRights(2, 4, 4, 2);
        x.allocate(0);
        for (int turn = 0; turn < 5; turn++) {
            due("giveSend(0, 1, 1)", x.giveSend(0, 1, 1), 1);
            duePort(x, 0, PORT_HELD, 1, 0);
        }
        due("deallocate(1, 1)", x.deallocate(1, 1), OK);
        dueName(x, 1, 1, 0, -1);
        duePort(x, 0, PORT_HELD, 0, 0);
        refused(x, "deallocate(1, 1) again", () -> x.deallocate(1, 1), ERR_NAME);
        for (int turn = 0; turn < 5; turn++) {
            due("giveSend(0, 1, 0)", x.giveSend(0, 1, 0), 1);
            duePort(x, 0, PORT_HELD, 1, 0);
        }
        due("deallocate(0, 1)", x.deallocate(0, 1), OK);
        dueName(x, 0, 1, RECEIVE, 0);
        refused(x, "deallocate(0, 1) again", () -> x.deallocate(0, 1), ERR_NAME);
    }

    /** "a task has at most one name whose type has RECEIVE or SEND for a given port". */
    private static void oneNameForReceiveAndSend() {
        MachPortRights x = new MachPortRights(2, 4, 8, 4);
        x.allocate(0);
        x.allocate(1);
        x.giveSend(1, 1, 0);
        x.giveSend(0, 1, 1);
        x.giveSend(0, 1, 0);
        x.send(0, 2, 1, MAKE_SEND);
        x.send(0, 2, 1, COPY_SEND);
        x.send(0, 2, 1, MOVE_RECEIVE);
        for (int turn = 0; turn < 3; turn++) {
            x.receive(1, 1);
            due("lastReceived(2)", x.lastReceived(2), 2);
        }
        dueName(x, 1, 2, RECEIVE_SEND, 0);
        dueName(x, 1, 3, 0, -1);
        dueName(x, 0, 1, SEND, 0);
        duePort(x, 0, PORT_HELD, 2, 0);
    }

    /** "every send-once right has its own name", beside RECEIVE and SEND for the port and beside one another. */
    private static void everySendOnceRightHasItsName() {
        MachPortRights x = new MachPortRights(2, 4, 4, 4);
        x.allocate(0);
        x.giveSend(0, 1, 0);
        for (int name = 2; name <= 4; name++) {
            x.send(0, 1, 1, MAKE_SEND_ONCE);
            due("receive(0, 1)", x.receive(0, 1), name - 1);
            dueName(x, 0, name, SEND_ONCE, 0);
            duePort(x, 0, PORT_HELD, 1, name - 1);
        }
        x.send(0, 1, 1, MAKE_SEND_ONCE);
        refused(x, "receive(0, 1), no free name", () -> x.receive(0, 1), ERR_FULL);
        due("deallocate(0, 3)", x.deallocate(0, 3), OK);
        dueName(x, 0, 2, SEND_ONCE, 0);
        dueName(x, 0, 4, SEND_ONCE, 0);
        due("receive(0, 1), into the gap", x.receive(0, 1), 4);
        dueName(x, 0, 3, SEND_ONCE, 0);
    }

    /** "To free a name: its type becomes 0 and it denotes no port": SEND, SEND_ONCE and DEAD by deallocate. */
    private static void freedByDeallocate() {
        MachPortRights x = States.aNameOfEachType();
        for (int name = 3; name <= 5; name++) {
            due("deallocate(0, " + name + ")", x.deallocate(0, name), OK);
            dueName(x, 0, name, 0, -1);
            due("allocate(0), it can be used again", x.allocate(0), name);
            due("nameType(0, " + name + ")", x.nameType(0, name), RECEIVE);
        }
    }

    /** The same by send: the name moved, and a SEND_ONCE name sent to. */
    private static void freedBySend() {
        int[][] rows = {{3, 1, MOVE_RECEIVE, 1}, {2, 3, MOVE_SEND, 3}, {3, 4, MOVE_SEND_ONCE, 4}, {4, 0, DISP_NONE, 4}};
        for (int[] row : rows) {
            MachPortRights x = States.aNameOfEachType();
            due("send of disposition " + row[2], x.send(0, row[0], row[1], row[2]), 2);
            dueName(x, 0, row[3], 0, -1);
            due("allocate(0), it can be used again", x.allocate(0), row[3]);
        }
        MachPortRights both = States.aNameOfEachType();
        due("send(0, 4, 3, 2), two names at once", both.send(0, 4, 3, MOVE_SEND), 2);
        dueName(both, 0, 3, 0, -1);
        dueName(both, 0, 4, 0, -1);
        due("allocate(0)", both.allocate(0), 3);
        due("allocate(0)", both.allocate(0), 4);
    }

    /** The same by death: RECEIVE alone is freed. */
    private static void freedByDeath() {
        MachPortRights x = States.aNameOfEachType();
        due("destroyReceive(0, 1)", x.destroyReceive(0, 1), 1);
        dueName(x, 0, 1, 0, -1);
        dueName(x, 0, 4, DEAD, 0);
        due("allocate(0), it can be used again", x.allocate(0), 1);
    }

    /** Task 0 has port 0 at 1, as RECEIVE|SEND, and its names but these two and the last are taken. */
    private static MachPortRights twoGaps(int first, int second) {
        MachPortRights x = new MachPortRights(2, 16, 8, 4);
        x.allocate(0);
        x.giveSend(0, 1, 0);
        for (int name = 2; name <= 7; name++) {
            x.allocate(0);
        }
        x.allocate(1);
        x.giveSend(1, 1, 0);
        x.destroyReceive(0, first);
        x.destroyReceive(0, second);
        x.deallocate(0, 8);
        return x;
    }

    /** "The least free name of a task is its smallest free name number": for each way a name is taken. */
    private static void leastFreeNameForEveryNewRight() {
        for (int first = 2; first <= 6; first++) {
            int second = first + 1;
            MachPortRights allocated = twoGaps(second, first);
            due("allocate(0)", allocated.allocate(0), first);
            due("allocate(0)", allocated.allocate(0), second);
            due("allocate(0)", allocated.allocate(0), 8);

            MachPortRights given = twoGaps(second, first);
            due("giveSend(1, 1, 0)", given.giveSend(1, 1, 0), first);
            dueName(given, 0, first, SEND, 7);
            dueName(given, 0, second, 0, -1);

            int[] disps = {MAKE_SEND, MAKE_SEND_ONCE, MOVE_RECEIVE};
            int[] types = {SEND, SEND_ONCE, RECEIVE};
            for (int at = 0; at < 3; at++) {
                MachPortRights x = twoGaps(second, first);
                x.giveSend(0, 1, 1);
                x.send(1, 2, 1, disps[at]);
                due("receive(0, 1)", x.receive(0, 1), 1);
                dueName(x, 0, first, types[at], 7);
                dueName(x, 0, second, 0, -1);
                dueName(x, 0, 8, 0, -1);
            }
        }
    }

    /** A dead port of every kind of past: it was armed, full and noticed, and rights for it are in names and queues. */
    private static MachPortRights deadPort() {
        MachPortRights x = new MachPortRights(2, 8, 8, 2);
        x.allocate(0);
        x.allocate(1);
        x.giveSend(1, 1, 0);
        x.giveSend(0, 1, 1);
        x.giveSend(0, 1, 0);
        x.send(0, 2, 1, MAKE_SEND_ONCE);
        x.receive(1, 1);
        x.send(1, 2, 0, DISP_NONE);
        x.send(1, 2, 0, DISP_NONE);
        x.send(0, 2, 1, MAKE_SEND);
        x.send(0, 2, 1, MAKE_SEND_ONCE);
        x.requestNoSenders(0, 1);
        x.destroyReceive(0, 1);
        return x;
    }

    private static void dueDead(MachPortRights x, String when) {
        due("portState(0) " + when, x.portState(0), PORT_DEAD);
        due("sendRights(0) " + when, x.sendRights(0), 0);
        due("sendOnceRights(0) " + when, x.sendOnceRights(0), 0);
        due("isArmed(0) " + when, x.isArmed(0), false);
        due("queueLength(0) " + when, x.queueLength(0), 0);
        due("queueAt(0, 0, 0) " + when, x.queueAt(0, 0, 0), -1);
    }

    /** "A dead port has S=O=0, is not armed, and its queue is empty forever". */
    private static void deadPortHasNothing() {
        MachPortRights x = deadPort();
        dueDead(x, "after its death");
        dueName(x, 0, 1, DEAD, 0);
        dueName(x, 1, 2, DEAD, 0);
        dueName(x, 1, 3, DEAD, 0);
        refused(x, "send(1, 2, 0, 0), DEAD", () -> x.send(1, 2, 0, DISP_NONE), ERR_NAME);
        refused(x, "send(1, 3, 0, 0), DEAD", () -> x.send(1, 3, 0, DISP_NONE), ERR_NAME);
        dueMessage(x, 1, 0, 4, KIND_SEND, 0);
        dueMessage(x, 1, 1, 5, KIND_SEND_ONCE, 0);
    }

    /** "any rule that would change S, O or the queue of a dead port does nothing instead": deallocate. */
    private static void deadNameCountsNothing() {
        MachPortRights x = deadPort();
        due("deallocate(0, 1), once RECEIVE|SEND", x.deallocate(0, 1), OK);
        dueDead(x, "after deallocate(0, 1)");
        due("deallocate(1, 2), once SEND", x.deallocate(1, 2), OK);
        dueDead(x, "after deallocate(1, 2)");
        due("deallocate(1, 3), once SEND_ONCE", x.deallocate(1, 3), OK);
        dueDead(x, "after deallocate(1, 3)");
        due("send(0, 2, 0, 0), the queue is full", x.send(0, 2, 0, DISP_NONE), ERR_FULL);
        x.receive(1, 1);
        due("send(0, 2, 0, 0), no id was used", x.send(0, 2, 0, DISP_NONE), 6);
    }

    /** The same: a right for it that is received or discarded. */
    private static void deadPortIsNotRevived() {
        MachPortRights x = deadPort();
        due("receive(1, 1)", x.receive(1, 1), 4);
        dueRecord(x, 4, KIND_DEAD, 0, 0);
        dueDead(x, "after a send right for it is received");
        due("receive(1, 1)", x.receive(1, 1), 5);
        dueRecord(x, 5, KIND_DEAD, 0, 0);
        dueDead(x, "after a send-once right for it is received");
        dueName(x, 1, 2, DEAD, 0);
        dueName(x, 1, 4, 0, -1);
        MachPortRights y = deadPort();
        due("destroyReceive(1, 1)", y.destroyReceive(1, 1), 1);
        dueDead(y, "after rights for it are discarded");
        dueName(y, 1, 2, DEAD, 0);
        y.allocate(0);
        due("requestNoSenders(0, 3), no id was used", y.requestNoSenders(0, 3), 6);
    }

    /** "PORT_IN_TRANSIT (live, receive right carried by a queued message)": its counts, flag and queue go on. */
    private static void portInTransitKeepsAll() {
        MachPortRights x = new MachPortRights(2, 8, 8, 2);
        x.allocate(0);
        x.allocate(1);
        x.giveSend(1, 1, 0);
        x.giveSend(0, 1, 0);
        x.send(0, 1, 1, MAKE_SEND_ONCE);
        x.requestNoSenders(0, 1);
        due("send(0, 2, 1, 1)", x.send(0, 2, 1, MOVE_RECEIVE), 2);
        duePort(x, 0, PORT_IN_TRANSIT, 1, 1);
        due("isArmed(0)", x.isArmed(0), true);
        due("send(0, 1, 1, 3)", x.send(0, 1, 1, COPY_SEND), 3);
        duePort(x, 0, PORT_IN_TRANSIT, 2, 1);
        refused(x, "send(0, 1, 0, 0), full", () -> x.send(0, 1, 0, DISP_NONE), ERR_FULL);
        refused(x, "receive(0, 1), SEND", () -> x.receive(0, 1), ERR_NAME);
        due("deallocate(0, 1)", x.deallocate(0, 1), OK);
        due("isArmed(0), its own queue has a send right", x.isArmed(0), true);
        due("receive(1, 1)", x.receive(1, 1), 2);
        duePort(x, 0, PORT_HELD, 1, 1);
        due("isArmed(0)", x.isArmed(0), true);
        due("receive(1, 2)", x.receive(1, 2), 1);
        dueName(x, 1, 3, SEND_ONCE, 0);
        due("receive(1, 2)", x.receive(1, 2), 3);
        dueName(x, 1, 2, RECEIVE_SEND, 0);
        due("deallocate(1, 2)", x.deallocate(1, 2), OK);
        dueMessage(x, 0, 0, 4, KIND_NOTICE, -1);
    }
}
