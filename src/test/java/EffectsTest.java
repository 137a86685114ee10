/**
 * What each call that is not refused changes, to the last getter, and that it changes nothing else: the
 * promises' "Nothing else changes", "No queue and no other port changes", "its queue, counts and armed flag
 * stay" and "The last-received record does not change".
 */
final class EffectsTest extends Checks {
    public static void main(String[] args) {
        allocate();
        giveSend();
        giveSendToItself();
        sendPlain();
        sendKeepingTheName();
        sendMoving();
        sendToSendOnce();
        carryIsIgnored();
        receivePlainAndNotice();
        receiveRights();
        receiveDead();
        deallocate();
        deallocateArmed();
        destroyReceive();
        requestNoSenders();
        end();
    }

    private static void allocate() {
        changed(States::aNameOfEachType, "allocate(0)", x -> x.allocate(0), 6,
            "nameType(0, 6) = 1", "namePort(0, 6) = 4", "portState(4) = 1");
        changed(States::fullQueues, "allocate(1)", x -> x.allocate(1), 2,
            "nameType(1, 2) = 1", "namePort(1, 2) = 4", "portState(4) = 1");
    }

    private static void giveSend() {
        changed(States::aNameOfEachType, "giveSend(0, 1, 1)", x -> x.giveSend(0, 1, 1), 2,
            "nameType(1, 2) = 2", "namePort(1, 2) = 0", "sendRights(0) = 1");
        changed(States::aNameOfEachType, "giveSend(0, 2, 1)", x -> x.giveSend(0, 2, 1), 2,
            "nameType(1, 2) = 2", "namePort(1, 2) = 1", "sendRights(1) = 2");
        changed(States::aNameOfEachType, "giveSend(1, 1, 0), merged", x -> x.giveSend(1, 1, 0), 3);
        changed(States::fullQueues, "giveSend(0, 1, 1), full", x -> x.giveSend(0, 1, 1), 2,
            "nameType(1, 2) = 2", "namePort(1, 2) = 0", "sendRights(0) = 1");
    }

    private static void giveSendToItself() {
        changed(States::aNameOfEachType, "giveSend(0, 1, 0)", x -> x.giveSend(0, 1, 0), 1,
            "nameType(0, 1) = 3", "sendRights(0) = 1");
        changed(States::aNameOfEachType, "giveSend(0, 2, 0), merged", x -> x.giveSend(0, 2, 0), 2);
    }

    private static void sendPlain() {
        changed(States::aNameOfEachType, "send(0, 3, 0, 0)", x -> x.send(0, 3, 0, DISP_NONE), 2,
            "queueLength(2) = 1", "queueAt(2, 0, 0) = 2", "queueAt(2, 0, 1) = 0");
        changed(States::aNameOfEachType, "send(0, 2, 0, 0)", x -> x.send(0, 2, 0, DISP_NONE), 2,
            "queueLength(1) = 1", "queueAt(1, 0, 0) = 2", "queueAt(1, 0, 1) = 0");
    }

    private static void sendKeepingTheName() {
        changed(States::aNameOfEachType, "send(0, 3, 2, 3)", x -> x.send(0, 3, 2, COPY_SEND), 2,
            "sendRights(1) = 2",
            "queueLength(2) = 1", "queueAt(2, 0, 0) = 2", "queueAt(2, 0, 1) = 1", "queueAt(2, 0, 2) = 1");
        changed(States::aNameOfEachType, "send(0, 2, 3, 3)", x -> x.send(0, 2, 3, COPY_SEND), 2,
            "sendRights(2) = 2",
            "queueLength(1) = 1", "queueAt(1, 0, 0) = 2", "queueAt(1, 0, 1) = 1", "queueAt(1, 0, 2) = 2");
        changed(States::aNameOfEachType, "send(0, 3, 1, 4)", x -> x.send(0, 3, 1, MAKE_SEND), 2,
            "sendRights(0) = 1",
            "queueLength(2) = 1", "queueAt(2, 0, 0) = 2", "queueAt(2, 0, 1) = 1", "queueAt(2, 0, 2) = 0");
        changed(States::aNameOfEachType, "send(0, 2, 2, 4)", x -> x.send(0, 2, 2, MAKE_SEND), 2,
            "sendRights(1) = 2",
            "queueLength(1) = 1", "queueAt(1, 0, 0) = 2", "queueAt(1, 0, 1) = 1", "queueAt(1, 0, 2) = 1");
        changed(States::aNameOfEachType, "send(0, 3, 1, 6)", x -> x.send(0, 3, 1, MAKE_SEND_ONCE), 2,
            "sendOnceRights(0) = 2",
            "queueLength(2) = 1", "queueAt(2, 0, 0) = 2", "queueAt(2, 0, 1) = 2", "queueAt(2, 0, 2) = 0");
        changed(States::aNameOfEachType, "send(0, 2, 2, 6)", x -> x.send(0, 2, 2, MAKE_SEND_ONCE), 2,
            "sendOnceRights(1) = 1",
            "queueLength(1) = 1", "queueAt(1, 0, 0) = 2", "queueAt(1, 0, 1) = 2", "queueAt(1, 0, 2) = 1");
    }

    /** As States.aNameOfEachType, but port 0 and port 1 each have a message, and port 1 is armed. */
    private static MachPortRights armedAndBusy() {
        MachPortRights x = States.aNameOfEachType();
        x.requestNoSenders(0, 1);
        x.send(0, 2, 0, DISP_NONE);
        x.requestNoSenders(0, 2);
        return x;
    }

    private static void sendMoving() {
        changed(EffectsTest::armedAndBusy, "send(0, 3, 1, 1)", x -> x.send(0, 3, 1, MOVE_RECEIVE), 4,
            "nameType(0, 1) = 0", "namePort(0, 1) = -1", "portState(0) = 2",
            "queueLength(2) = 1", "queueAt(2, 0, 0) = 4", "queueAt(2, 0, 1) = 3", "queueAt(2, 0, 2) = 0");
        changed(EffectsTest::armedAndBusy, "send(0, 3, 2, 1)", x -> x.send(0, 3, 2, MOVE_RECEIVE), 4,
            "nameType(0, 2) = 2", "portState(1) = 2",
            "queueLength(2) = 1", "queueAt(2, 0, 0) = 4", "queueAt(2, 0, 1) = 3", "queueAt(2, 0, 2) = 1");
        changed(EffectsTest::armedAndBusy, "send(0, 3, 2, 2)", x -> x.send(0, 3, 2, MOVE_SEND), 4,
            "nameType(0, 2) = 1",
            "queueLength(2) = 1", "queueAt(2, 0, 0) = 4", "queueAt(2, 0, 1) = 1", "queueAt(2, 0, 2) = 1");
        changed(EffectsTest::armedAndBusy, "send(0, 2, 3, 2)", x -> x.send(0, 2, 3, MOVE_SEND), 4,
            "nameType(0, 3) = 0", "namePort(0, 3) = -1",
            "queueLength(1) = 2", "queueAt(1, 1, 0) = 4", "queueAt(1, 1, 1) = 1", "queueAt(1, 1, 2) = 2");
        changed(EffectsTest::armedAndBusy, "send(0, 3, 4, 5)", x -> x.send(0, 3, 4, MOVE_SEND_ONCE), 4,
            "nameType(0, 4) = 0", "namePort(0, 4) = -1",
            "queueLength(2) = 1", "queueAt(2, 0, 0) = 4", "queueAt(2, 0, 1) = 2", "queueAt(2, 0, 2) = 0");
    }

    private static void sendToSendOnce() {
        changed(States::aNameOfEachType, "send(0, 4, 0, 0)", x -> x.send(0, 4, 0, DISP_NONE), 2,
            "nameType(0, 4) = 0", "namePort(0, 4) = -1", "sendOnceRights(0) = 0",
            "queueLength(0) = 1", "queueAt(0, 0, 0) = 2", "queueAt(0, 0, 1) = 0");
        changed(States::aNameOfEachType, "send(0, 4, 1, 6), for its own port", x -> x.send(0, 4, 1, MAKE_SEND_ONCE), 2,
            "nameType(0, 4) = 0", "namePort(0, 4) = -1",
            "queueLength(0) = 1", "queueAt(0, 0, 0) = 2", "queueAt(0, 0, 1) = 2", "queueAt(0, 0, 2) = 0");
        changed(States::aNameOfEachType, "send(0, 4, 3, 2)", x -> x.send(0, 4, 3, MOVE_SEND), 2,
            "nameType(0, 4) = 0", "namePort(0, 4) = -1", "sendOnceRights(0) = 0",
            "nameType(0, 3) = 0", "namePort(0, 3) = -1",
            "queueLength(0) = 1", "queueAt(0, 0, 0) = 2", "queueAt(0, 0, 1) = 1", "queueAt(0, 0, 2) = 2");
        changed(EffectsTest::twoForOnePort, "send(0, 4, 1, 2), of one port", x -> x.send(0, 4, 1, MOVE_SEND), 2,
            "nameType(0, 4) = 0", "namePort(0, 4) = -1", "sendOnceRights(0) = 0", "nameType(0, 1) = 1",
            "queueLength(0) = 1", "queueAt(0, 0, 0) = 2", "queueAt(0, 0, 1) = 1", "queueAt(0, 0, 2) = 0");
        changed(EffectsTest::twoSendOnces, "send(0, 4, 6, 5), of one port", x -> x.send(0, 4, 6, MOVE_SEND_ONCE), 3,
            "nameType(0, 4) = 0", "namePort(0, 4) = -1", "sendOnceRights(0) = 1",
            "nameType(0, 6) = 0", "namePort(0, 6) = -1",
            "queueLength(0) = 1", "queueAt(0, 0, 0) = 3", "queueAt(0, 0, 1) = 2", "queueAt(0, 0, 2) = 0");
    }

    /** As States.aNameOfEachType, but task 0 has a send right for port 0 besides, at 1. */
    private static MachPortRights twoForOnePort() {
        MachPortRights x = States.aNameOfEachType();
        x.giveSend(0, 1, 0);
        return x;
    }

    /** As States.aNameOfEachType, with a second send-once right for port 0 at 6. */
    private static MachPortRights twoSendOnces() {
        MachPortRights x = States.aNameOfEachType();
        x.send(0, 2, 1, MAKE_SEND_ONCE);
        x.receive(0, 2);
        return x;
    }

    /** Promise 4: "carry is ignored when disp is DISP_NONE", whatever number it is and whatever name. */
    private static void carryIsIgnored() {
        int[] carries = {Integer.MIN_VALUE, -1, 0, 1, 2, 3, 4, 5, 6, 8, 9, Integer.MAX_VALUE};
        for (int carry : carries) {
            changed(States::aNameOfEachType, "send(0, 3, " + carry + ", 0)", x -> x.send(0, 3, carry, DISP_NONE), 2,
                "queueLength(2) = 1", "queueAt(2, 0, 0) = 2", "queueAt(2, 0, 1) = 0");
        }
    }

    /** As States.aNameOfEachType, and port 1 has this message at its head. */
    private static MachPortRights head(int carry, int disp) {
        MachPortRights x = States.aNameOfEachType();
        x.send(0, 2, carry, disp);
        return x;
    }

    private static MachPortRights noticeHead() {
        MachPortRights x = States.aNameOfEachType();
        x.requestNoSenders(0, 1);
        return x;
    }

    private static void receivePlainAndNotice() {
        changed(() -> head(0, DISP_NONE), "receive(0, 2), plain", x -> x.receive(0, 2), 2,
            "queueLength(1) = 0", "queueAt(1, 0, 0) = -1", "queueAt(1, 0, 1) = -1",
            "lastReceived(0) = 2", "lastReceived(1) = 0", "lastReceived(2) = 0", "lastReceived(3) = -1");
        changed(EffectsTest::noticeHead, "receive(0, 1), a notice", x -> x.receive(0, 1), 2,
            "queueLength(0) = 0", "queueAt(0, 0, 0) = -1", "queueAt(0, 0, 1) = -1",
            "lastReceived(0) = 2", "lastReceived(1) = 4", "lastReceived(2) = 0", "lastReceived(3) = -1");
    }

    private static void receiveRights() {
        changed(() -> head(1, MAKE_SEND), "receive(0, 2), into RECEIVE", x -> x.receive(0, 2), 2,
            "nameType(0, 1) = 3",
            "queueLength(1) = 0", "queueAt(1, 0, 0) = -1", "queueAt(1, 0, 1) = -1", "queueAt(1, 0, 2) = -1",
            "lastReceived(0) = 2", "lastReceived(1) = 1", "lastReceived(2) = 1");
        changed(() -> head(3, COPY_SEND), "receive(0, 2), merged", x -> x.receive(0, 2), 2,
            "sendRights(2) = 1",
            "queueLength(1) = 0", "queueAt(1, 0, 0) = -1", "queueAt(1, 0, 1) = -1", "queueAt(1, 0, 2) = -1",
            "lastReceived(0) = 2", "lastReceived(1) = 1", "lastReceived(2) = 3", "lastReceived(3) = 2");
        changed(() -> head(3, MOVE_SEND), "receive(0, 2), a new name", x -> x.receive(0, 2), 2,
            "nameType(0, 3) = 2", "namePort(0, 3) = 2",
            "queueLength(1) = 0", "queueAt(1, 0, 0) = -1", "queueAt(1, 0, 1) = -1", "queueAt(1, 0, 2) = -1",
            "lastReceived(0) = 2", "lastReceived(1) = 1", "lastReceived(2) = 3", "lastReceived(3) = 2");
        changed(() -> head(1, MAKE_SEND_ONCE), "receive(0, 2), send-once", x -> x.receive(0, 2), 2,
            "nameType(0, 6) = 4", "namePort(0, 6) = 0",
            "queueLength(1) = 0", "queueAt(1, 0, 0) = -1", "queueAt(1, 0, 1) = -1", "queueAt(1, 0, 2) = -1",
            "lastReceived(0) = 2", "lastReceived(2) = 6");
        changed(() -> head(1, MOVE_RECEIVE), "receive(0, 2), receive", x -> x.receive(0, 2), 2,
            "nameType(0, 1) = 1", "namePort(0, 1) = 0", "portState(0) = 1",
            "queueLength(1) = 0", "queueAt(1, 0, 0) = -1", "queueAt(1, 0, 1) = -1", "queueAt(1, 0, 2) = -1",
            "lastReceived(0) = 2", "lastReceived(1) = 3", "lastReceived(2) = 1");
    }

    private static MachPortRights deadHead(int disp) {
        MachPortRights x = head(1, disp);
        x.destroyReceive(0, 1);
        return x;
    }

    private static void receiveDead() {
        int[] disps = {MAKE_SEND, MAKE_SEND_ONCE};
        for (int disp : disps) {
            changed(() -> deadHead(disp), "receive(0, 2), a dead port's", x -> x.receive(0, 2), 2,
                "queueLength(1) = 0", "queueAt(1, 0, 0) = -1", "queueAt(1, 0, 1) = -1", "queueAt(1, 0, 2) = -1",
                "lastReceived(0) = 2", "lastReceived(1) = 5", "lastReceived(2) = 0");
        }
    }

    private static void deallocate() {
        changed(States::aNameOfEachType, "deallocate(0, 2)", x -> x.deallocate(0, 2), OK,
            "nameType(0, 2) = 1", "sendRights(1) = 0");
        changed(States::aNameOfEachType, "deallocate(0, 3)", x -> x.deallocate(0, 3), OK,
            "nameType(0, 3) = 0", "namePort(0, 3) = -1", "sendRights(2) = 0");
        changed(States::aNameOfEachType, "deallocate(0, 4)", x -> x.deallocate(0, 4), OK,
            "nameType(0, 4) = 0", "namePort(0, 4) = -1", "sendOnceRights(0) = 0");
        changed(States::aNameOfEachType, "deallocate(0, 5)", x -> x.deallocate(0, 5), OK,
            "nameType(0, 5) = 0", "namePort(0, 5) = -1");
    }

    private static MachPortRights armedAndFull() {
        MachPortRights x = States.fullQueues();
        x.requestNoSenders(0, 2);
        x.requestNoSenders(1, 1);
        return x;
    }

    private static void deallocateArmed() {
        changed(EffectsTest::armedAndFull, "deallocate(0, 2)", x -> x.deallocate(0, 2), OK,
            "nameType(0, 2) = 1", "sendRights(1) = 0", "isArmed(1) = false",
            "queueLength(1) = 3", "queueAt(1, 2, 0) = 8", "queueAt(1, 2, 1) = 4");
        changed(EffectsTest::armedAndFull, "deallocate(0, 3)", x -> x.deallocate(0, 3), OK,
            "nameType(0, 3) = 0", "namePort(0, 3) = -1", "sendRights(2) = 0", "isArmed(2) = false",
            "queueLength(2) = 3", "queueAt(2, 2, 0) = 8", "queueAt(2, 2, 1) = 4");
    }

    private static void destroyReceive() {
        changed(States::aNameOfEachType, "destroyReceive(0, 1)", x -> x.destroyReceive(0, 1), 1,
            "nameType(0, 1) = 0", "namePort(0, 1) = -1", "nameType(0, 4) = 8",
            "portState(0) = 3", "sendOnceRights(0) = 0");
        changed(States::aNameOfEachType, "destroyReceive(0, 2)", x -> x.destroyReceive(0, 2), 1,
            "nameType(0, 2) = 8", "portState(1) = 3", "sendRights(1) = 0");
        changed(EffectsTest::armedAndFull, "destroyReceive(1, 1)", x -> x.destroyReceive(1, 1), 1,
            "nameType(1, 1) = 0", "namePort(1, 1) = -1", "nameType(0, 3) = 8",
            "portState(2) = 3", "sendRights(2) = 0", "isArmed(2) = false",
            "queueLength(2) = 0", "queueAt(2, 0, 0) = -1", "queueAt(2, 0, 1) = -1",
            "queueAt(2, 1, 0) = -1", "queueAt(2, 1, 1) = -1");
        changed(States::chain, "destroyReceive(0, 3)", x -> x.destroyReceive(0, 3), 3,
            "nameType(0, 1) = 8", "portState(0) = 3", "sendRights(0) = 0",
            "nameType(0, 2) = 8", "portState(1) = 3", "sendRights(1) = 0",
            "nameType(0, 3) = 8", "portState(2) = 3", "sendRights(2) = 0",
            "queueLength(1) = 0", "queueAt(1, 0, 0) = -1", "queueAt(1, 0, 1) = -1", "queueAt(1, 0, 2) = -1",
            "queueLength(2) = 0", "queueAt(2, 0, 0) = -1", "queueAt(2, 0, 1) = -1", "queueAt(2, 0, 2) = -1");
    }

    private static void requestNoSenders() {
        changed(States::aNameOfEachType, "requestNoSenders(0, 1), S is 0", x -> x.requestNoSenders(0, 1), 2,
            "queueLength(0) = 1", "queueAt(0, 0, 0) = 2", "queueAt(0, 0, 1) = 4");
        changed(States::aNameOfEachType, "requestNoSenders(0, 2), S is 1", x -> x.requestNoSenders(0, 2), OK,
            "isArmed(1) = true");
        changed(States::fullQueues, "requestNoSenders(0, 1), full", x -> x.requestNoSenders(0, 1), 8,
            "queueLength(0) = 3", "queueAt(0, 2, 0) = 8", "queueAt(0, 2, 1) = 4");
    }
}
