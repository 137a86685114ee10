/** The shared rule "Messages": ids, and queues that are first in, first out, however often they go round. */
final class MessagesRuleTest extends Checks {
    public static void main(String[] args) {
        firstIdIsOne();
        oneCounterForAllQueues();
        refusalsUseNoId();
        otherCallsUseNoId();
        firstInFirstOut();
        queuesGoRound();
        idsGoFarBeyondASmallNumber();
        end();
    }

    /** "An id counter starts at 0 ... the counter increases by 1 and the message gets the new value." */
    private static void firstIdIsOne() {
        MachPortRights ordinary = new MachPortRights(2, 4, 4, 2);
        ordinary.allocate(0);
        ordinary.giveSend(0, 1, 0);
        due("send(0, 1, 0, 0)", ordinary.send(0, 1, 0, DISP_NONE), 1);
        dueMessage(ordinary, 0, 0, 1, KIND_NONE, -1);
        MachPortRights notice = new MachPortRights(2, 4, 4, 2);
        notice.allocate(0);
        due("requestNoSenders(0, 1)", notice.requestNoSenders(0, 1), 1);
        dueMessage(notice, 0, 0, 1, KIND_NOTICE, -1);
        MachPortRights dropped = new MachPortRights(2, 4, 4, 2);
        dropped.allocate(0);
        dropped.giveSend(0, 1, 0);
        dropped.requestNoSenders(0, 1);
        dropped.deallocate(0, 1);
        dueMessage(dropped, 0, 0, 1, KIND_NOTICE, -1);
    }

    /** "whenever any message (ordinary or notice) is appended to any queue". */
    private static void oneCounterForAllQueues() {
        MachPortRights x = States.aNameOfEachType();
        due("send(0, 3, 0, 0)", x.send(0, 3, 0, DISP_NONE), 2);
        due("send(0, 2, 0, 0)", x.send(0, 2, 0, DISP_NONE), 3);
        due("requestNoSenders(0, 1)", x.requestNoSenders(0, 1), 4);
        due("send(0, 4, 0, 0)", x.send(0, 4, 0, DISP_NONE), 5);
        due("requestNoSenders(0, 2)", x.requestNoSenders(0, 2), OK);
        due("send(0, 3, 2, 3)", x.send(0, 3, 2, COPY_SEND), 6);
        due("deallocate(0, 2)", x.deallocate(0, 2), OK);
        due("destroyReceive(1, 1)", x.destroyReceive(1, 1), 1);
        dueMessage(x, 1, 1, 7, KIND_NOTICE, -1);
        due("giveSend(0, 2, 0)", x.giveSend(0, 2, 0), 2);
        due("send(0, 2, 1, 6)", x.send(0, 2, 1, MAKE_SEND_ONCE), 8);
        dueMessage(x, 0, 0, 4, KIND_NOTICE, -1);
        dueMessage(x, 0, 1, 5, KIND_NONE, -1);
        dueMessage(x, 1, 0, 3, KIND_NONE, -1);
        dueMessage(x, 1, 2, 8, KIND_SEND_ONCE, 0);
    }

    /** "changes nothing (... id counter ...)": one refusal of each method, and the next id is the next. */
    private static void refusalsUseNoId() {
        MachPortRights x = States.aNameOfEachType();
        due("allocate(2)", x.allocate(2), ERR_TASK);
        due("giveSend(0, 3, 1)", x.giveSend(0, 3, 1), ERR_NAME);
        due("send(0, 1, 0, 0)", x.send(0, 1, 0, DISP_NONE), ERR_NAME);
        due("send(0, 2, 0, 7)", x.send(0, 2, 0, 7), ERR_ARG);
        due("send(0, 2, 0, 1)", x.send(0, 2, 0, MOVE_RECEIVE), ERR_NAME);
        due("send(0, 2, 2, 2)", x.send(0, 2, 2, MOVE_SEND), ERR_ARG);
        due("send(0, 2, 2, 1)", x.send(0, 2, 2, MOVE_RECEIVE), ERR_CYCLE);
        due("receive(0, 2)", x.receive(0, 2), ERR_EMPTY);
        due("deallocate(0, 1)", x.deallocate(0, 1), ERR_NAME);
        due("destroyReceive(0, 3)", x.destroyReceive(0, 3), ERR_NAME);
        due("requestNoSenders(0, 3)", x.requestNoSenders(0, 3), ERR_NAME);
        due("send(0, 2, 0, 0)", x.send(0, 2, 0, DISP_NONE), 2);
        due("send(0, 2, 0, 0)", x.send(0, 2, 0, DISP_NONE), 3);
        due("send(0, 2, 0, 0)", x.send(0, 2, 0, DISP_NONE), ERR_FULL);
        due("requestNoSenders(0, 2)", x.requestNoSenders(0, 2), OK);
        due("requestNoSenders(0, 2)", x.requestNoSenders(0, 2), ERR_STATE);
        due("send(0, 3, 0, 0)", x.send(0, 3, 0, DISP_NONE), 4);
    }

    /** Promise 2, "the id counter is untouched", and promise 5, "not changed by receiving", and the rest besides. */
    private static void otherCallsUseNoId() {
        MachPortRights x = States.aNameOfEachType();
        due("allocate(1)", x.allocate(1), 2);
        due("send(0, 3, 0, 0)", x.send(0, 3, 0, DISP_NONE), 2);
        due("giveSend(0, 1, 1)", x.giveSend(0, 1, 1), 3);
        due("send(0, 3, 0, 0)", x.send(0, 3, 0, DISP_NONE), 3);
        due("receive(1, 1)", x.receive(1, 1), 2);
        due("receive(1, 1)", x.receive(1, 1), 3);
        due("send(0, 3, 0, 0)", x.send(0, 3, 0, DISP_NONE), 4);
        due("deallocate(0, 4)", x.deallocate(0, 4), OK);
        due("requestNoSenders(0, 2), armed", x.requestNoSenders(0, 2), OK);
        due("destroyReceive(0, 2)", x.destroyReceive(0, 2), 1);
        due("send(0, 3, 0, 0)", x.send(0, 3, 0, DISP_NONE), 5);
    }

    /** "Messages are appended at the tail and removed at the head", each with its own kind and port. */
    private static void firstInFirstOut() {
        MachPortRights x = new MachPortRights(2, 8, 8, 8);
        x.allocate(1);
        x.giveSend(1, 1, 0);
        x.allocate(0);
        x.allocate(0);
        x.giveSend(0, 2, 0);
        x.giveSend(0, 3, 0);
        int[][] sent = {
            {0, DISP_NONE}, {2, MAKE_SEND_ONCE}, {3, MOVE_SEND}, {2, COPY_SEND}, {3, MOVE_RECEIVE}, {0, DISP_NONE},
            {2, MAKE_SEND}};
        int[][] kept = {
            {KIND_NONE, -1}, {KIND_SEND_ONCE, 1}, {KIND_SEND, 2}, {KIND_SEND, 1}, {KIND_RECEIVE, 2}, {KIND_NONE, -1},
            {KIND_SEND, 1}};
        for (int at = 0; at < sent.length; at++) {
            due("send", x.send(0, 1, sent[at][0], sent[at][1]), at + 1);
        }
        for (int taken = 0; taken < kept.length; taken++) {
            due("queueLength(0)", x.queueLength(0), kept.length - taken);
            for (int at = taken; at < kept.length; at++) {
                dueMessage(x, 0, at - taken, at + 1, kept[at][0], kept[at][1]);
            }
            due("receive(1, 1)", x.receive(1, 1), taken + 1);
            due("lastReceived(1)", x.lastReceived(1), kept[taken][0]);
            due("lastReceived(3)", x.lastReceived(3), kept[taken][1]);
        }
    }

    /** The same after a queue of every size, filled to every length, has gone round many times. */
    private static void queuesGoRound() {
        for (int queue = 2; queue <= 8; queue++) {
            for (int length = 1; length <= queue; length++) {
                MachPortRights x = new MachPortRights(2, 4, 4, queue);
                x.allocate(0);
                x.giveSend(0, 1, 0);
                for (int id = 1; id < length; id++) {
                    x.send(0, 1, 0, DISP_NONE);
                }
                for (int id = length; id < 60; id++) {
                    int disp = id % 3 == 0 ? MAKE_SEND : DISP_NONE;
                    due("send(0, 1, 1, " + disp + ")", x.send(0, 1, 1, disp), id);
                    due("queueLength(0)", x.queueLength(0), length);
                    dueMessage(x, 0, length, -1, -1, -1);
                    for (int pos = 0; pos < length; pos++) {
                        int there = id - length + 1 + pos;
                        boolean carries = there >= length && there % 3 == 0;
                        dueMessage(x, 0, pos, there, carries ? KIND_SEND : KIND_NONE, carries ? 0 : -1);
                    }
                    due("receive(0, 1)", x.receive(0, 1), id - length + 1);
                }
            }
        }
    }

    /** The counter only ever increases by 1: no small number ends it. */
    private static void idsGoFarBeyondASmallNumber() {
        MachPortRights x = new MachPortRights(2, 4, 4, 2);
        x.allocate(0);
        x.giveSend(0, 1, 0);
        for (int id = 1; id <= 300_000 && wrongSoFar() == 0; id++) {
            due("send(0, 1, 0, 0)", x.send(0, 1, 0, DISP_NONE), id);
            due("queueAt(0, 0, 0)", x.queueAt(0, 0, 0), id);
            due("receive(0, 1)", x.receive(0, 1), id);
            due("lastReceived(0)", x.lastReceived(0), id);
        }
    }
}
