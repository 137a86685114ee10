/** The shared rule "Sizes", each sentence at its edges and for every size that there is. */
final class SizesRuleTest extends Checks {
    private static final int LEAST = Integer.MIN_VALUE;
    private static final int GREATEST = Integer.MAX_VALUE;

    public static void main(String[] args) {
        tasksBelowAndAbove();
        portsBelowAndAbove();
        namesBelowAndAbove();
        queueBelowAndAbove();
        eachSizeIsClampedApart();
        everyTaskCanAct();
        everyNameCanBeUsed();
        noNameBeyondN();
        portsAreNumberedInOrder();
        portsAreNeverReused();
        queueHoldsQOrdinaryMessages();
        noticeBesideQOrdinaryMessages();
        noticeNeverFails();
        end();
    }

    /** "a value below the least becomes the least, above the greatest becomes the greatest": T in 2..4. */
    private static void tasksBelowAndAbove() {
        int[][] rows = {{LEAST, 2}, {-1, 2}, {0, 2}, {1, 2}, {2, 2}, {3, 3}, {4, 4}, {5, 4}, {GREATEST, 4}};
        for (int[] row : rows) {
            due("T of " + row[0], tasksOf(new MachPortRights(row[0], 4, 4, 2)), row[1]);
        }
    }

    /** The same: P in 4..16. */
    private static void portsBelowAndAbove() {
        int[][] rows = {
            {LEAST, 4}, {-1, 4}, {0, 4}, {3, 4}, {4, 4}, {5, 5}, {15, 15}, {16, 16}, {17, 16}, {GREATEST, 16}};
        for (int[] row : rows) {
            due("P of " + row[0], portsOf(new MachPortRights(2, row[0], 4, 2)), row[1]);
        }
    }

    /** The same: N in 4..8. */
    private static void namesBelowAndAbove() {
        int[][] rows = {{LEAST, 4}, {-1, 4}, {0, 4}, {3, 4}, {4, 4}, {5, 5}, {7, 7}, {8, 8}, {9, 8}, {GREATEST, 8}};
        for (int[] row : rows) {
            due("N of " + row[0], namesOf(new MachPortRights(2, 4, row[0], 2)), row[1]);
        }
    }

    /** The same: Q in 2..8. */
    private static void queueBelowAndAbove() {
        int[][] rows = {{LEAST, 2}, {-1, 2}, {0, 2}, {1, 2}, {2, 2}, {3, 3}, {7, 7}, {8, 8}, {9, 8}, {GREATEST, 8}};
        for (int[] row : rows) {
            due("Q of " + row[0], queueOf(new MachPortRights(2, 4, 4, row[0])), row[1]);
        }
    }

    /** "The four constructor arguments are clamped": too small and too large beside each other. */
    private static void eachSizeIsClampedApart() {
        for (int mask = 0; mask < 16; mask++) {
            int tasks = (mask & 1) == 0 ? LEAST : GREATEST;
            int ports = (mask & 2) == 0 ? LEAST : GREATEST;
            int names = (mask & 4) == 0 ? LEAST : GREATEST;
            int queue = (mask & 8) == 0 ? LEAST : GREATEST;
            String where = " of the sizes " + mask;
            due("T" + where, tasksOf(new MachPortRights(tasks, ports, names, queue)), tasks == LEAST ? 2 : 4);
            due("P" + where, portsOf(new MachPortRights(tasks, ports, names, queue)), ports == LEAST ? 4 : 16);
            due("N" + where, namesOf(new MachPortRights(tasks, ports, names, queue)), names == LEAST ? 4 : 8);
            due("Q" + where, queueOf(new MachPortRights(tasks, ports, names, queue)), queue == LEAST ? 2 : 8);
        }
    }

    private static int tasksOf(MachPortRights x) {
        int count = 0;
        for (int task = -2; task < 20; task++) {
            count += x.receive(task, 1) == ERR_NAME ? 1 : 0;
        }
        return count;
    }

    private static int portsOf(MachPortRights x) {
        int count = 0;
        for (int turn = 0; turn < 40; turn++) {
            count += x.allocate(1) == 1 ? 1 : 0;
            x.destroyReceive(1, 1);
        }
        return count;
    }

    /** Send-once rights fill the names, since the ports may be too few for it. */
    private static int namesOf(MachPortRights x) {
        x.allocate(1);
        x.giveSend(1, 1, 1);
        int count = 1;
        for (int turn = 0; turn < 20; turn++) {
            x.send(1, 1, 1, MAKE_SEND_ONCE);
            count += x.receive(1, 1) > 0 ? 1 : 0;
        }
        return count;
    }

    private static int queueOf(MachPortRights x) {
        x.allocate(1);
        x.giveSend(1, 1, 1);
        int count = 0;
        for (int turn = 0; turn < 20; turn++) {
            count += x.send(1, 1, 0, DISP_NONE) > 0 ? 1 : 0;
        }
        return count;
    }

    /** "tasks are 0..T-1": the first and the last are taken by every method, and the next is not. */
    private static void everyTaskCanAct() {
        for (int tasks = 2; tasks <= 4; tasks++) {
            int last = tasks - 1;
            int beyond = tasks;
            MachPortRights x = new MachPortRights(tasks, 8, 4, 2);
            due("allocate(0)", x.allocate(0), 1);
            due("allocate(last)", x.allocate(last), 1);
            refused(x, "allocate(T)", () -> x.allocate(beyond), ERR_TASK);
            due("giveSend(0, 1, last)", x.giveSend(0, 1, last), 2);
            due("giveSend(last, 1, 0)", x.giveSend(last, 1, 0), 2);
            refused(x, "giveSend(0, 1, T)", () -> x.giveSend(0, 1, beyond), ERR_ARG);
            refused(x, "giveSend(T, 1, 0)", () -> x.giveSend(beyond, 1, 0), ERR_TASK);
            due("send(0, 2, 0, 0)", x.send(0, 2, 0, DISP_NONE), 1);
            due("send(last, 2, 0, 0)", x.send(last, 2, 0, DISP_NONE), 2);
            refused(x, "send(T, 2, 0, 0)", () -> x.send(beyond, 2, 0, DISP_NONE), ERR_TASK);
            due("receive(0, 1)", x.receive(0, 1), 2);
            due("receive(last, 1)", x.receive(last, 1), 1);
            refused(x, "receive(T, 1)", () -> x.receive(beyond, 1), ERR_TASK);
            due("requestNoSenders(0, 1)", x.requestNoSenders(0, 1), OK);
            due("requestNoSenders(last, 1)", x.requestNoSenders(last, 1), OK);
            refused(x, "requestNoSenders(T, 1)", () -> x.requestNoSenders(beyond, 1), ERR_TASK);
            due("deallocate(0, 2)", x.deallocate(0, 2), OK);
            due("deallocate(last, 2)", x.deallocate(last, 2), OK);
            refused(x, "deallocate(T, 2)", () -> x.deallocate(beyond, 2), ERR_TASK);
            dueName(x, last, 1, RECEIVE, 1);
            dueName(x, beyond, 1, 0, -1);
            due("destroyReceive(0, 1)", x.destroyReceive(0, 1), 1);
            due("destroyReceive(last, 1)", x.destroyReceive(last, 1), 1);
            refused(x, "destroyReceive(T, 1)", () -> x.destroyReceive(beyond, 1), ERR_TASK);
        }
    }

    /** Every name of both tasks is RECEIVE|SEND, and the queue of its port holds a message. */
    private static MachPortRights allNamesTaken(int names) {
        MachPortRights x = new MachPortRights(2, 16, names, 2);
        for (int task = 0; task < 2; task++) {
            for (int name = 1; name <= names; name++) {
                x.allocate(task);
                x.giveSend(task, name, task);
                x.send(task, name, 0, DISP_NONE);
            }
        }
        return x;
    }

    /** "each task's names are 1..N": the first and the last are taken by every method. */
    private static void everyNameCanBeUsed() {
        for (int names = 4; names <= 8; names++) {
            int[] edges = {1, names};
            for (int name : edges) {
                MachPortRights x = allNamesTaken(names);
                int nextId = 2 * names + 1;
                dueName(x, 1, name, RECEIVE_SEND, names + name - 1);
                due("giveSend", x.giveSend(1, name, 1), name);
                due("send", x.send(1, name, name, MAKE_SEND), nextId);
                due("receive", x.receive(1, name), names + name);
                due("receive", x.receive(1, name), nextId);
                dueRecord(x, nextId, KIND_SEND, name, names + name - 1);
                due("requestNoSenders", x.requestNoSenders(1, name), OK);
                due("deallocate", x.deallocate(1, name), OK);
                dueName(x, 1, name, RECEIVE, names + name - 1);
                due("destroyReceive", x.destroyReceive(1, name), 1);
                dueName(x, 1, name, 0, -1);
                due("allocate", x.allocate(1), names == 8 ? ERR_FULL : name);
            }
        }
    }

    /** "each task's names are 1..N; 0 is never a valid name": not by any method, as a full neighbour would show. */
    private static void noNameBeyondN() {
        for (int names = 4; names <= 8; names++) {
            int size = names;
            int[] beyond = {LEAST, -names, -1, 0, names + 1, 2 * names, 9, GREATEST};
            for (int name : beyond) {
                for (int at = 0; at < 2; at++) {
                    int task = at;
                    String by = " of task " + task + " by name " + name + ", N is " + names;
                    refused(() -> allNamesTaken(size), "giveSend" + by, x -> x.giveSend(task, name, task), ERR_NAME);
                    refused(() -> allNamesTaken(size), "send to" + by, x -> x.send(task, name, 1, DISP_NONE), ERR_NAME);
                    for (int disp = 1; disp <= 6; disp++) {
                        int tried = disp;
                        refused(() -> allNamesTaken(size), "send" + by, x -> x.send(task, 1, name, tried), ERR_NAME);
                    }
                    refused(() -> allNamesTaken(size), "receive" + by, x -> x.receive(task, name), ERR_NAME);
                    refused(() -> allNamesTaken(size), "deallocate" + by, x -> x.deallocate(task, name), ERR_NAME);
                    refused(() -> allNamesTaken(size), "destroyReceive" + by,
                        x -> x.destroyReceive(task, name), ERR_NAME);
                    refused(() -> allNamesTaken(size), "requestNoSenders" + by,
                        x -> x.requestNoSenders(task, name), ERR_NAME);
                    dueName(allNamesTaken(names), task, name, 0, -1);
                }
            }
        }
    }

    /** "ports are 0..P-1, numbered in order of allocation", whoever allocates. */
    private static void portsAreNumberedInOrder() {
        for (int ports = 4; ports <= 16; ports++) {
            MachPortRights x = new MachPortRights(3, ports, 8, 2);
            for (int port = 0; port < ports; port++) {
                int task = port % 3;
                due("portState(" + port + ") before", x.portState(port), PORT_NONE);
                int name = x.allocate(task);
                due("the name of port " + port, name, port / 3 + 1);
                dueName(x, task, name, RECEIVE, port);
                due("portState(" + port + ")", x.portState(port), PORT_HELD);
            }
            refused(x, "allocate(2), P is " + ports, () -> x.allocate(2), ERR_FULL);
            due("portState(P)", x.portState(ports), PORT_NONE);
            due("portState(P-1)", x.portState(ports - 1), PORT_HELD);
        }
    }

    /** "never reused; at most P allocations ever succeed", though the ports before are all dead. */
    private static void portsAreNeverReused() {
        for (int ports = 4; ports <= 16; ports++) {
            MachPortRights x = new MachPortRights(2, ports, 4, 2);
            for (int port = 0; port < ports; port++) {
                due("allocate(1)", x.allocate(1), 1);
                due("namePort(1, 1)", x.namePort(1, 1), port);
                due("destroyReceive(1, 1)", x.destroyReceive(1, 1), 1);
                due("portState(" + port + ")", x.portState(port), PORT_DEAD);
            }
            refused(x, "allocate(1), all P dead", () -> x.allocate(1), ERR_FULL);
        }
    }

    /** Task 1 can send to port 0, which task 0 holds at name 1, and to port 1, at 2, whose queue lies next to it. */
    private static MachPortRights mailbox(int queue) {
        MachPortRights x = new MachPortRights(2, 4, 4, queue);
        x.allocate(0);
        x.allocate(0);
        x.giveSend(0, 1, 1);
        x.giveSend(0, 2, 1);
        return x;
    }

    private static int fill(MachPortRights x, int queue, int lastId) {
        int id = lastId;
        for (int turn = 0; turn < queue; turn++) {
            id++;
            due("send(1, 1, 0, 0)", x.send(1, 1, 0, DISP_NONE), id);
        }
        return id;
    }

    /** "a port's queue holds at most Q ordinary messages": Q of them are taken, the next is not. */
    private static void queueHoldsQOrdinaryMessages() {
        for (int queue = 2; queue <= 8; queue++) {
            MachPortRights x = mailbox(queue);
            due("send to the neighbour", x.send(1, 2, 0, DISP_NONE), 1);
            int id = fill(x, queue, 1);
            refused(x, "send(1, 1, 0, 0), Q is " + queue, () -> x.send(1, 1, 0, DISP_NONE), ERR_FULL);
            due("queueLength(0)", x.queueLength(0), queue);
            dueMessage(x, 0, queue - 1, id, KIND_NONE, -1);
            dueMessage(x, 1, 0, 1, KIND_NONE, -1);
            due("receive(0, 1)", x.receive(0, 1), 2);
            due("send(1, 1, 0, 0), there is room", x.send(1, 1, 0, DISP_NONE), id + 1);
            refused(x, "send(1, 1, 0, 0), Q is " + queue, () -> x.send(1, 1, 0, DISP_NONE), ERR_FULL);
        }
    }

    /** "plus at most one notice": wherever it stands among them, it takes no ordinary message's place. */
    private static void noticeBesideQOrdinaryMessages() {
        for (int queue = 2; queue <= 8; queue++) {
            for (int before = 0; before <= queue; before++) {
                MachPortRights x = mailbox(queue);
                due("send to the neighbour", x.send(1, 2, 0, DISP_NONE), 1);
                fill(x, before, 1);
                x.deallocate(1, 1);
                due("requestNoSenders(0, 1)", x.requestNoSenders(0, 1), before + 2);
                x.giveSend(0, 1, 1);
                fill(x, queue - before, before + 2);
                refused(x, "send(1, 1, 0, 0), Q is " + queue, () -> x.send(1, 1, 0, DISP_NONE), ERR_FULL);
                refused(x, "requestNoSenders(0, 1)", () -> x.requestNoSenders(0, 1), ERR_STATE);
                due("queueLength(0)", x.queueLength(0), queue + 1);
                for (int pos = 0; pos <= queue; pos++) {
                    dueMessage(x, 0, pos, pos + 2, pos == before ? KIND_NOTICE : KIND_NONE, -1);
                }
                dueMessage(x, 0, queue + 1, -1, -1, -1);
                dueMessage(x, 1, 0, 1, KIND_NONE, -1);
            }
        }
    }

    /** "appending a notice never fails": not by any of the three ways it comes to a full queue. */
    private static void noticeNeverFails() {
        for (int queue = 2; queue <= 8; queue++) {
            MachPortRights asked = mailbox(queue);
            int id = fill(asked, queue, 0) + 1;
            asked.deallocate(1, 1);
            due("requestNoSenders(0, 1)", asked.requestNoSenders(0, 1), id);
            dueMessage(asked, 0, queue, id, KIND_NOTICE, -1);

            MachPortRights dropped = mailbox(queue);
            fill(dropped, queue, 0);
            dropped.requestNoSenders(0, 1);
            due("deallocate(1, 1)", dropped.deallocate(1, 1), OK);
            dueMessage(dropped, 0, queue, id, KIND_NOTICE, -1);

            MachPortRights released = mailbox(queue);
            fill(released, queue, 0);
            released.requestNoSenders(0, 1);
            due("send(1, 2, 1, 2)", released.send(1, 2, 1, MOVE_SEND), id);
            due("destroyReceive(0, 2)", released.destroyReceive(0, 2), 1);
            dueMessage(released, 0, queue, id + 1, KIND_NOTICE, -1);
        }
    }
}
