/** The shared rule "Copyout", each case of it, by receive and, for send rights, by giveSend too. */
final class CopyoutRuleTest extends Checks {
    public static void main(String[] args) {
        sendIntoReceive();
        sendIntoSend();
        sendIntoReceiveSend();
        sendIntoNewName();
        sendOnceIntoNewName();
        receiveIntoSend();
        receiveIntoNewName();
        deadSendVanishes();
        deadSendOnceVanishes();
        deadRightNeedsNoName();
        mergeNeedsNoName();
        plainMessageAndNoticeNeedNoName();
        newNameIsNeeded();
        oneFreeNameIsEnough();
        end();
    }

    /**
     * Task 1 has port 0 at its name 1, and task 0 can send to it by its name 1 and has port 1 at 2. Task 1 has
     * as many free names as told.
     */
    private static MachPortRights mailbox(int free) {
        MachPortRights x = new MachPortRights(2, 16, 4, 4);
        x.allocate(1);
        x.giveSend(1, 1, 0);
        x.allocate(0);
        fillTo(x, free);
        return x;
    }

    private static void fillTo(MachPortRights x, int free) {
        for (int name = 1; name <= 4 - free; name++) {
            if (x.nameType(1, name) == 0) {
                x.allocate(1);
            }
        }
    }

    /** "if t has a name with RECEIVE or SEND for p: that name gets SEND added": RECEIVE. */
    private static void sendIntoReceive() {
        MachPortRights x = mailbox(3);
        x.send(0, 1, 1, COPY_SEND);
        due("receive(1, 1)", x.receive(1, 1), 1);
        dueRecord(x, 1, KIND_SEND, 1, 0);
        dueName(x, 1, 1, RECEIVE_SEND, 0);
        dueName(x, 1, 2, 0, -1);
        duePort(x, 0, PORT_HELD, 2, 0);
        MachPortRights given = mailbox(3);
        due("giveSend(1, 1, 1)", given.giveSend(1, 1, 1), 1);
        dueName(given, 1, 1, RECEIVE_SEND, 0);
        duePort(given, 0, PORT_HELD, 2, 0);
    }

    /** "and if it already had SEND, S(p) decreases by 1 (merge)": SEND. */
    private static void sendIntoSend() {
        MachPortRights x = mailbox(3);
        x.giveSend(0, 2, 1);
        x.send(0, 1, 2, MAKE_SEND);
        duePort(x, 1, PORT_HELD, 2, 0);
        due("receive(1, 1)", x.receive(1, 1), 1);
        dueRecord(x, 1, KIND_SEND, 2, 1);
        dueName(x, 1, 2, SEND, 1);
        dueName(x, 1, 3, 0, -1);
        duePort(x, 1, PORT_HELD, 1, 0);
        due("giveSend(0, 2, 1)", x.giveSend(0, 2, 1), 2);
        duePort(x, 1, PORT_HELD, 1, 0);
    }

    /** The same: RECEIVE|SEND. */
    private static void sendIntoReceiveSend() {
        MachPortRights x = mailbox(3);
        x.giveSend(1, 1, 1);
        x.send(0, 1, 1, COPY_SEND);
        duePort(x, 0, PORT_HELD, 3, 0);
        due("receive(1, 1)", x.receive(1, 1), 1);
        dueRecord(x, 1, KIND_SEND, 1, 0);
        dueName(x, 1, 1, RECEIVE_SEND, 0);
        duePort(x, 0, PORT_HELD, 2, 0);
        due("giveSend(1, 1, 1)", x.giveSend(1, 1, 1), 1);
        duePort(x, 0, PORT_HELD, 2, 0);
    }

    /** "If t has no such name: the least free name of t becomes SEND for p": a SEND_ONCE name is no such name. */
    private static void sendIntoNewName() {
        MachPortRights x = mailbox(3);
        x.send(0, 1, 2, MAKE_SEND);
        due("receive(1, 1)", x.receive(1, 1), 1);
        dueRecord(x, 1, KIND_SEND, 2, 1);
        dueName(x, 1, 2, SEND, 1);
        duePort(x, 1, PORT_HELD, 1, 0);
        MachPortRights beside = mailbox(3);
        beside.send(0, 1, 2, MAKE_SEND_ONCE);
        beside.receive(1, 1);
        beside.send(0, 1, 2, MAKE_SEND);
        due("receive(1, 1), beside SEND_ONCE", beside.receive(1, 1), 2);
        dueRecord(beside, 2, KIND_SEND, 3, 1);
        dueName(beside, 1, 2, SEND_ONCE, 1);
        duePort(beside, 1, PORT_HELD, 1, 1);
    }

    /** "send-once, p live: the least free name of t becomes SEND_ONCE for p", whatever t has for p. */
    private static void sendOnceIntoNewName() {
        MachPortRights x = mailbox(3);
        x.giveSend(0, 2, 1);
        x.send(0, 1, 2, MAKE_SEND_ONCE);
        due("receive(1, 1), beside SEND", x.receive(1, 1), 1);
        dueRecord(x, 1, KIND_SEND_ONCE, 3, 1);
        dueName(x, 1, 2, SEND, 1);
        duePort(x, 1, PORT_HELD, 1, 1);
        x.send(0, 1, 2, MAKE_SEND_ONCE);
        due("receive(1, 1), beside SEND_ONCE", x.receive(1, 1), 2);
        dueRecord(x, 2, KIND_SEND_ONCE, 4, 1);
        duePort(x, 1, PORT_HELD, 1, 2);
        MachPortRights own = mailbox(3);
        own.giveSend(1, 1, 1);
        own.send(1, 1, 1, MAKE_SEND_ONCE);
        due("receive(1, 1), beside RECEIVE|SEND", own.receive(1, 1), 1);
        dueRecord(own, 1, KIND_SEND_ONCE, 2, 0);
        dueName(own, 1, 1, RECEIVE_SEND, 0);
        duePort(own, 0, PORT_HELD, 2, 1);
    }

    /** "receive: p becomes PORT_HELD; if t has a name with SEND for p it becomes RECEIVE|SEND". */
    private static void receiveIntoSend() {
        MachPortRights x = mailbox(3);
        x.giveSend(0, 2, 1);
        x.send(0, 1, 2, MOVE_RECEIVE);
        duePort(x, 1, PORT_IN_TRANSIT, 1, 0);
        due("receive(1, 1)", x.receive(1, 1), 1);
        dueRecord(x, 1, KIND_RECEIVE, 2, 1);
        dueName(x, 1, 2, RECEIVE_SEND, 1);
        dueName(x, 1, 3, 0, -1);
        duePort(x, 1, PORT_HELD, 1, 0);
    }

    /** "otherwise the least free name of t becomes RECEIVE for p": SEND_ONCE and other ports' names do not count. */
    private static void receiveIntoNewName() {
        MachPortRights x = mailbox(3);
        x.send(0, 1, 2, MAKE_SEND_ONCE);
        x.receive(1, 1);
        x.send(0, 1, 2, MOVE_RECEIVE);
        due("receive(1, 1)", x.receive(1, 1), 2);
        dueRecord(x, 2, KIND_RECEIVE, 3, 1);
        dueName(x, 1, 2, SEND_ONCE, 1);
        dueName(x, 1, 3, RECEIVE, 1);
        duePort(x, 1, PORT_HELD, 0, 1);
    }

    /** "send or send-once, p dead: the right vanishes; no name and no count changes": send, beside a DEAD name. */
    private static void deadSendVanishes() {
        MachPortRights x = mailbox(3);
        x.giveSend(0, 2, 1);
        x.send(0, 1, 2, MAKE_SEND);
        x.destroyReceive(0, 2);
        due("receive(1, 1)", x.receive(1, 1), 1);
        dueRecord(x, 1, KIND_DEAD, 0, 1);
        dueName(x, 1, 2, DEAD, 1);
        dueName(x, 1, 3, 0, -1);
        duePort(x, 1, PORT_DEAD, 0, 0);
    }

    private static void deadSendOnceVanishes() {
        MachPortRights x = mailbox(3);
        x.send(0, 1, 2, MAKE_SEND_ONCE);
        x.destroyReceive(0, 2);
        due("receive(1, 1)", x.receive(1, 1), 1);
        dueRecord(x, 1, KIND_DEAD, 0, 1);
        dueName(x, 1, 2, 0, -1);
        duePort(x, 1, PORT_DEAD, 0, 0);
    }

    /** "A copyout needs a new name exactly in the cases that take the least free name": not for a dead port. */
    private static void deadRightNeedsNoName() {
        int[] disps = {MAKE_SEND, MAKE_SEND_ONCE};
        for (int disp : disps) {
            MachPortRights x = mailbox(0);
            x.send(0, 1, 2, disp);
            refused(x, "receive(1, 1), the port is live", () -> x.receive(1, 1), ERR_FULL);
            x.destroyReceive(0, 2);
            due("receive(1, 1), the port is dead", x.receive(1, 1), 1);
            dueRecord(x, 1, KIND_DEAD, 0, 1);
        }
    }

    /** The same: not where the right joins a name. */
    private static void mergeNeedsNoName() {
        MachPortRights x = mailbox(3);
        x.giveSend(0, 2, 1);
        fillTo(x, 0);
        x.send(0, 1, 2, MAKE_SEND);
        due("receive(1, 1), SEND into SEND", x.receive(1, 1), 1);
        x.send(0, 1, 1, COPY_SEND);
        due("receive(1, 1), SEND into RECEIVE", x.receive(1, 1), 2);
        x.send(0, 1, 1, COPY_SEND);
        due("receive(1, 1), SEND into RECEIVE|SEND", x.receive(1, 1), 3);
        due("giveSend(0, 2, 1), SEND into SEND", x.giveSend(0, 2, 1), 2);
        due("giveSend(1, 3, 1), SEND into RECEIVE", x.giveSend(1, 3, 1), 3);
        due("giveSend(1, 3, 1), SEND into RECEIVE|SEND", x.giveSend(1, 3, 1), 3);
        x.send(0, 1, 2, MOVE_RECEIVE);
        due("receive(1, 1), RECEIVE into SEND", x.receive(1, 1), 4);
        dueRecord(x, 4, KIND_RECEIVE, 2, 1);
        dueName(x, 1, 2, RECEIVE_SEND, 1);
    }

    /** Promise 5 refuses only where "the head carries a right": these carry none. */
    private static void plainMessageAndNoticeNeedNoName() {
        MachPortRights x = mailbox(0);
        x.send(0, 1, 0, DISP_NONE);
        x.deallocate(0, 1);
        x.requestNoSenders(1, 1);
        due("receive(1, 1), plain", x.receive(1, 1), 1);
        dueRecord(x, 1, KIND_NONE, 0, -1);
        due("receive(1, 1), notice", x.receive(1, 1), 2);
        dueRecord(x, 2, KIND_NOTICE, 0, -1);
    }

    /** The cases that take the least free name are refused without one; a taker with names elsewhere is not asked. */
    private static void newNameIsNeeded() {
        int[] disps = {MAKE_SEND, MAKE_SEND_ONCE, MOVE_RECEIVE};
        for (int disp : disps) {
            MachPortRights x = mailbox(0);
            due("send(0, 1, 2, " + disp + ")", x.send(0, 1, 2, disp), 1);
            refused(x, "receive(1, 1) of disposition " + disp, () -> x.receive(1, 1), ERR_FULL);
            dueMessage(x, 0, 0, 1, disp == MOVE_RECEIVE ? KIND_RECEIVE : disp == MAKE_SEND ? 1 : 2, 1);
        }
        MachPortRights x = mailbox(0);
        refused(x, "giveSend(0, 2, 1)", () -> x.giveSend(0, 2, 1), ERR_FULL);
        MachPortRights giverIsFull = new MachPortRights(2, 16, 4, 2);
        for (int name = 1; name <= 4; name++) {
            giverIsFull.allocate(0);
        }
        due("giveSend(0, 4, 1), only toTask counts", giverIsFull.giveSend(0, 4, 1), 1);
    }

    private static void oneFreeNameIsEnough() {
        int[] disps = {MAKE_SEND, MAKE_SEND_ONCE, MOVE_RECEIVE};
        int[] types = {SEND, SEND_ONCE, RECEIVE};
        for (int at = 0; at < 3; at++) {
            MachPortRights x = mailbox(1);
            x.send(0, 1, 2, disps[at]);
            due("receive(1, 1), one free name", x.receive(1, 1), 1);
            dueName(x, 1, 4, types[at], 1);
        }
        MachPortRights given = mailbox(1);
        due("giveSend(0, 2, 1), one free name", given.giveSend(0, 2, 1), 4);
    }
}
