/** The shared rule "Death", each of its steps. */
final class DeathRuleTest extends Checks {
    public static void main(String[] args) {
        everyNameOfEveryTask();
        everyNameAtEverySize();
        namesOfOthersStay();
        allOfThePortEnds();
        sendRightsAreReleased();
        sendOnceRightsAreReleased();
        plainMessagesAndNoticesReleaseNothing();
        ridersDie();
        ridersOfRidersDie();
        worklistIsFirstInFirstOut();
        messagesGoHeadFirst();
        oneThatDiesLaterStillGetsItsNotice();
        oneThatDiedBeforeGetsNone();
        otherQueuesStay();
        recordStays();
        answerCountsTheDead();
        end();
    }

    /** "every name of every task denoting y: type RECEIVE becomes free; types SEND, RECEIVE|SEND and SEND_ONCE". */
    private static void everyNameOfEveryTask() {
        int[] first = {RECEIVE, RECEIVE_SEND};
        for (int holderType : first) {
            MachPortRights x = new MachPortRights(4, 16, 8, 8);
            for (int task = 0; task < 4; task++) {
                x.allocate(task);
            }
            x.giveSend(0, 1, 1);
            x.giveSend(0, 1, 3);
            for (int task = 0; task < 4; task++) {
                int box = x.giveSend(task, 1, 0);
                x.send(0, box, 1, MAKE_SEND_ONCE);
                x.receive(task, 1);
                x.deallocate(0, box);
            }
            if (holderType == RECEIVE_SEND) {
                x.giveSend(0, 1, 0);
            }
            due("nameType(0, 1)", x.nameType(0, 1), holderType);
            duePort(x, 0, PORT_HELD, holderType == RECEIVE ? 2 : 3, 4);
            due("destroyReceive(0, 1)", x.destroyReceive(0, 1), 1);
            dueName(x, 0, 1, holderType == RECEIVE ? 0 : DEAD, holderType == RECEIVE ? -1 : 0);
            dueName(x, 1, 2, DEAD, 0);
            dueName(x, 3, 2, DEAD, 0);
            dueName(x, 1, 3, DEAD, 0);
            dueName(x, 3, 3, DEAD, 0);
            dueName(x, 2, 2, DEAD, 0);
            duePort(x, 0, PORT_DEAD, 0, 0);
        }
    }

    /** The same where every name there is, but one in each task to receive by, denotes the port. */
    private static void everyNameAtEverySize() {
        for (int tasks = 2; tasks <= 4; tasks++) {
            for (int names = 4; names <= 8; names++) {
                MachPortRights x = new MachPortRights(tasks, 16, names, 2);
                x.allocate(0);
                for (int task = tasks - 1; task >= 0; task--) {
                    x.giveSend(0, 1, task);
                    x.allocate(task);
                    for (int name = 3; name <= names; name++) {
                        x.giveSend(task, 2, 0);
                        x.send(0, 2, 1, MAKE_SEND_ONCE);
                        x.deallocate(0, 2);
                        x.receive(task, 2);
                    }
                }
                duePort(x, 0, PORT_HELD, tasks, tasks * (names - 2));
                due("destroyReceive(0, 1)", x.destroyReceive(0, 1), 1);
                for (int task = 0; task < tasks; task++) {
                    for (int name = 1; name <= names; name++) {
                        dueName(x, task, name, name == 2 ? RECEIVE : DEAD, name == 2 ? tasks - task : 0);
                    }
                }
            }
        }
    }

    private static void namesOfOthersStay() {
        MachPortRights x = States.aNameOfEachType();
        x.destroyReceive(0, 2);
        dueName(x, 0, 2, DEAD, 1);
        dueName(x, 0, 1, RECEIVE, 0);
        dueName(x, 0, 3, SEND, 2);
        dueName(x, 0, 4, SEND_ONCE, 0);
        dueName(x, 0, 5, DEAD, 3);
        dueName(x, 0, 6, 0, -1);
        dueName(x, 1, 1, RECEIVE, 2);
        duePort(x, 0, PORT_HELD, 0, 1);
        duePort(x, 2, PORT_HELD, 1, 0);
    }

    /** "y becomes PORT_DEAD, S(y)=O(y)=0, armed false"; "y's messages are removed". */
    private static void allOfThePortEnds() {
        MachPortRights x = States.fullQueues();
        x.requestNoSenders(0, 2);
        due("isArmed(1)", x.isArmed(1), true);
        due("destroyReceive(0, 2)", x.destroyReceive(0, 2), 1);
        duePort(x, 1, PORT_DEAD, 0, 0);
        due("isArmed(1)", x.isArmed(1), false);
        due("queueLength(1)", x.queueLength(1), 0);
        dueMessage(x, 1, 0, -1, -1, -1);
        due("destroyReceive(0, 1), with a send-once right", x.destroyReceive(0, 1), 1);
        duePort(x, 0, PORT_DEAD, 0, 0);
        due("queueLength(0)", x.queueLength(0), 0);
    }

    /** Task 0 has the ports 0 to 5 at its names 1 to 6, each RECEIVE|SEND; at most eight messages in a queue. */
    private static MachPortRights sixPorts() {
        MachPortRights x = new MachPortRights(2, 16, 8, 8);
        for (int name = 1; name <= 6; name++) {
            x.allocate(0);
            x.giveSend(0, name, 0);
        }
        return x;
    }

    /** "KIND_SEND for z: S(z) decreases by 1 (the no-senders rule applies at once)": for each message. */
    private static void sendRightsAreReleased() {
        MachPortRights x = sixPorts();
        for (int turn = 0; turn < 3; turn++) {
            x.send(0, 1, 2, COPY_SEND);
        }
        x.send(0, 1, 3, MOVE_SEND);
        x.send(0, 1, 4, MOVE_SEND);
        x.requestNoSenders(0, 2);
        x.requestNoSenders(0, 3);
        duePort(x, 1, PORT_HELD, 4, 0);
        due("destroyReceive(0, 1)", x.destroyReceive(0, 1), 1);
        duePort(x, 1, PORT_HELD, 1, 0);
        due("isArmed(1), one right is left", x.isArmed(1), true);
        duePort(x, 2, PORT_HELD, 0, 0);
        due("isArmed(2)", x.isArmed(2), false);
        dueMessage(x, 2, 0, 6, KIND_NOTICE, -1);
        duePort(x, 3, PORT_HELD, 0, 0);
        due("queueLength(3), not armed", x.queueLength(3), 0);
    }

    /** "KIND_SEND_ONCE for z: O(z) decreases by 1", and no notice comes of it. */
    private static void sendOnceRightsAreReleased() {
        MachPortRights x = sixPorts();
        x.send(0, 3, 2, MAKE_SEND_ONCE);
        x.receive(0, 3);
        x.send(0, 1, 2, MAKE_SEND_ONCE);
        x.send(0, 1, 2, MAKE_SEND_ONCE);
        x.requestNoSenders(0, 2);
        duePort(x, 1, PORT_HELD, 1, 3);
        due("destroyReceive(0, 1)", x.destroyReceive(0, 1), 1);
        duePort(x, 1, PORT_HELD, 1, 1);
        due("isArmed(1)", x.isArmed(1), true);
        due("queueLength(1)", x.queueLength(1), 0);
    }

    /** "KIND_NONE, KIND_NOTICE: nothing". */
    private static void plainMessagesAndNoticesReleaseNothing() {
        MachPortRights x = sixPorts();
        x.send(0, 1, 2, DISP_NONE);
        x.deallocate(0, 1);
        x.requestNoSenders(0, 1);
        due("queueLength(0)", x.queueLength(0), 2);
        due("destroyReceive(0, 1)", x.destroyReceive(0, 1), 1);
        for (int port = 1; port < 6; port++) {
            duePort(x, port, PORT_HELD, 1, 0);
            due("queueLength", x.queueLength(port), 0);
        }
        due("send(0, 2, 0, 0)", x.send(0, 2, 0, DISP_NONE), 3);
    }

    /** "KIND_RECEIVE for z: z is appended to the worklist": names of a rider die as well. */
    private static void ridersDie() {
        MachPortRights x = sixPorts();
        x.giveSend(0, 2, 1);
        x.send(0, 3, 2, MAKE_SEND_ONCE);
        x.receive(0, 3);
        x.requestNoSenders(0, 2);
        x.send(0, 2, 3, MAKE_SEND);
        x.send(0, 1, 2, MOVE_RECEIVE);
        duePort(x, 1, PORT_IN_TRANSIT, 2, 1);
        due("destroyReceive(0, 1)", x.destroyReceive(0, 1), 2);
        duePort(x, 1, PORT_DEAD, 0, 0);
        due("isArmed(1)", x.isArmed(1), false);
        due("queueLength(1)", x.queueLength(1), 0);
        dueName(x, 0, 2, DEAD, 1);
        dueName(x, 0, 7, DEAD, 1);
        dueName(x, 1, 1, DEAD, 1);
        duePort(x, 2, PORT_HELD, 1, 0);
    }

    private static void ridersOfRidersDie() {
        MachPortRights x = sixPorts();
        for (int name = 5; name >= 1; name--) {
            due("send", x.send(0, name, name + 1, MOVE_RECEIVE), 6 - name);
        }
        due("destroyReceive(0, 1)", x.destroyReceive(0, 1), 6);
        for (int port = 0; port < 6; port++) {
            duePort(x, port, PORT_DEAD, 0, 0);
            due("queueLength", x.queueLength(port), 0);
            dueName(x, 0, port + 1, DEAD, port);
        }
    }

    /**
     * "a first-in-first-out worklist": port 0 holds 1 and 2, port 1 holds 3; the ports 1, 2 and 3 must die in this
     * order, and each has the last send right for one of the ports 4, 5 and 6, whose notices tell it.
     */
    private static void worklistIsFirstInFirstOut() {
        MachPortRights x = sixPorts();
        x.allocate(0);
        x.giveSend(0, 7, 0);
        for (int name = 2; name <= 4; name++) {
            x.requestNoSenders(0, name + 3);
            due("send of a last send right", x.send(0, name, name + 3, MOVE_SEND), name - 1);
        }
        x.send(0, 2, 4, MOVE_RECEIVE);
        x.send(0, 1, 2, MOVE_RECEIVE);
        x.send(0, 1, 3, MOVE_RECEIVE);
        due("destroyReceive(0, 1)", x.destroyReceive(0, 1), 4);
        dueMessage(x, 4, 0, 7, KIND_NOTICE, -1);
        dueMessage(x, 5, 0, 8, KIND_NOTICE, -1);
        dueMessage(x, 6, 0, 9, KIND_NOTICE, -1);
    }

    /** "y's messages are removed head first": the notices that come of it get their ids in that order. */
    private static void messagesGoHeadFirst() {
        int[][] orders = {{2, 3, 4}, {4, 3, 2}, {3, 4, 2}};
        for (int[] order : orders) {
            MachPortRights x = sixPorts();
            for (int name : order) {
                x.requestNoSenders(0, name);
                x.send(0, 1, name, MOVE_SEND);
            }
            due("destroyReceive(0, 1)", x.destroyReceive(0, 1), 1);
            for (int at = 0; at < 3; at++) {
                dueMessage(x, order[at] - 1, 0, at + 4, KIND_NOTICE, -1);
            }
        }
    }

    /**
     * Promise 7: "even one that dies later in the same call (its notice still uses up an id)". Port 1, armed,
     * rides in port 0 beside its own last send right, before it or after it.
     */
    private static void oneThatDiesLaterStillGetsItsNotice() {
        int[][] orders = {{MOVE_SEND, MOVE_RECEIVE}, {MOVE_RECEIVE, MOVE_SEND}};
        for (int[] order : orders) {
            MachPortRights x = sixPorts();
            x.requestNoSenders(0, 2);
            x.send(0, 1, 2, order[0]);
            due("send(0, 1, 2, " + order[1] + ")", x.send(0, 1, 2, order[1]), 2);
            due("destroyReceive(0, 1)", x.destroyReceive(0, 1), 2);
            duePort(x, 1, PORT_DEAD, 0, 0);
            due("queueLength(1)", x.queueLength(1), 0);
            due("send(0, 3, 0, 0), id 3 is used up", x.send(0, 3, 0, DISP_NONE), 4);
        }
    }

    /** "the no-senders rule for every port still live at that moment": a port that died before is not. */
    private static void oneThatDiedBeforeGetsNone() {
        MachPortRights rider = sixPorts();
        rider.requestNoSenders(0, 1);
        rider.send(0, 2, 1, MOVE_SEND);
        rider.giveSend(0, 1, 0);
        due("send(0, 1, 2, 1)", rider.send(0, 1, 2, MOVE_RECEIVE), 2);
        rider.deallocate(0, 1);
        due("isArmed(0)", rider.isArmed(0), true);
        due("destroyReceive(0, 1)", rider.destroyReceive(0, 1), 2);
        due("queueLength(0)", rider.queueLength(0), 0);
        due("send(0, 3, 0, 0), no id was used up", rider.send(0, 3, 0, DISP_NONE), 3);

        MachPortRights itself = sixPorts();
        itself.requestNoSenders(0, 1);
        itself.send(0, 1, 1, COPY_SEND);
        itself.deallocate(0, 1);
        duePort(itself, 0, PORT_HELD, 1, 0);
        due("destroyReceive(0, 1)", itself.destroyReceive(0, 1), 1);
        duePort(itself, 0, PORT_DEAD, 0, 0);
        due("queueLength(0)", itself.queueLength(0), 0);
        due("send(0, 3, 0, 0), no id was used up", itself.send(0, 3, 0, DISP_NONE), 2);
    }

    /** "Messages in the queues of other ports stay as they are, those that carry a right for the port that died". */
    private static void otherQueuesStay() {
        MachPortRights x = sixPorts();
        x.send(0, 1, 2, COPY_SEND);
        x.send(0, 1, 2, MAKE_SEND_ONCE);
        x.send(0, 1, 0, DISP_NONE);
        x.send(0, 1, 3, MAKE_SEND);
        due("destroyReceive(0, 2)", x.destroyReceive(0, 2), 1);
        due("queueLength(0)", x.queueLength(0), 4);
        dueMessage(x, 0, 0, 1, KIND_SEND, 1);
        dueMessage(x, 0, 1, 2, KIND_SEND_ONCE, 1);
        dueMessage(x, 0, 2, 3, KIND_NONE, -1);
        dueMessage(x, 0, 3, 4, KIND_SEND, 2);
        duePort(x, 2, PORT_HELD, 2, 0);
        for (int turn = 0; turn < 4; turn++) {
            x.send(0, 1, 0, DISP_NONE);
        }
        refused(x, "send(0, 1, 0, 0), they still take their places", () -> x.send(0, 1, 0, DISP_NONE), ERR_FULL);
    }

    /** Promise 16: "The record is changed only by a receive that is not refused". */
    private static void recordStays() {
        MachPortRights x = States.aNameOfEachType();
        x.destroyReceive(0, 1);
        dueRecord(x, 1, KIND_SEND_ONCE, 4, 0);
        x.destroyReceive(0, 2);
        dueRecord(x, 1, KIND_SEND_ONCE, 4, 0);
    }

    /** Promise 7: "the number of ports that died in this call (at least 1)": not those that died before. */
    private static void answerCountsTheDead() {
        MachPortRights x = sixPorts();
        due("destroyReceive(0, 6)", x.destroyReceive(0, 6), 1);
        for (int name = 2; name <= 5; name++) {
            x.send(0, 1, name, MOVE_RECEIVE);
        }
        due("receive(0, 1), port 1 is out again", x.receive(0, 1), 1);
        due("destroyReceive(0, 1)", x.destroyReceive(0, 1), 4);
        duePort(x, 1, PORT_HELD, 1, 0);
        due("destroyReceive(0, 2)", x.destroyReceive(0, 2), 1);
    }
}
