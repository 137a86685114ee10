import java.util.function.Supplier;
import java.util.function.ToIntFunction;

/**
 * "Every refused call answers its error code and changes nothing (no name, port, count, flag, queue, id counter
 * or last-received record). The refusal conditions of a method are considered in the order listed; the first
 * that holds decides the answer." Each refusal of each method stands here, alone and beside the later ones.
 */
final class RefusalsTest extends Checks {
    private static final int[] NO_TASKS = {Integer.MIN_VALUE, -1, 2, 3, 4, Integer.MAX_VALUE};
    private static final int[] NO_NAMES = {Integer.MIN_VALUE, -1, 0, 9, 10, Integer.MAX_VALUE};
    private static final int[] NO_DISPS = {Integer.MIN_VALUE, -1, 7, 8, Integer.MAX_VALUE};
    private static final int FREE_NAME = 6;

    public static void main(String[] args) {
        theStatesAreAsTold();
        allocateTask();
        allocatePorts();
        allocateNames();
        giveSendTask();
        giveSendName();
        giveSendToTask();
        giveSendFull();
        sendTask();
        sendDest();
        sendDisp();
        sendCarry();
        sendCarryIsDest();
        sendCycle();
        sendFull();
        receiveTask();
        receiveName();
        receiveEmpty();
        receiveFull();
        deallocateTask();
        deallocateName();
        destroyReceiveTask();
        destroyReceiveName();
        requestNoSendersTask();
        requestNoSendersName();
        requestNoSendersState();
        end();
    }

    private static void theStatesAreAsTold() {
        MachPortRights x = States.aNameOfEachType();
        int[] types = {RECEIVE, RECEIVE_SEND, SEND, SEND_ONCE, DEAD, 0, 0, 0};
        int[] ports = {0, 1, 2, 0, 3, -1, -1, -1};
        for (int name = 1; name <= 8; name++) {
            dueName(x, 0, name, types[name - 1], ports[name - 1]);
        }
        dueName(x, 1, 1, RECEIVE, 2);
        dueRecord(x, 1, KIND_SEND_ONCE, 4, 0);
        MachPortRights full = States.fullQueues();
        for (int port = 0; port < 3; port++) {
            due("queueLength(" + port + ")", full.queueLength(port), 2);
        }
        MachPortRights noticed = fullQueuesAndNotices();
        dueMessage(noticed, 0, 2, 8, KIND_NOTICE, -1);
        dueMessage(noticed, 2, 1, 9, KIND_NOTICE, -1);
        due("queueLength(0)", noticed.queueLength(0), 3);
        due("queueLength(2)", noticed.queueLength(2), 3);
        due("isArmed(1)", noticed.isArmed(1), true);
        MachPortRights chain = States.chain();
        due("queueAt(1, 0, 2)", chain.queueAt(1, 0, 2), 0);
        due("queueAt(2, 0, 2)", chain.queueAt(2, 0, 2), 1);
    }

    private static MachPortRights noPortLeft() {
        MachPortRights x = new MachPortRights(2, 4, 8, 2);
        x.allocate(0);
        x.allocate(1);
        x.allocate(0);
        x.allocate(1);
        return x;
    }

    private static MachPortRights noPortLeftSomeDead() {
        MachPortRights x = noPortLeft();
        x.destroyReceive(0, 1);
        x.destroyReceive(1, 2);
        return x;
    }

    private static MachPortRights noPortLeftAllDead() {
        MachPortRights x = noPortLeftSomeDead();
        x.destroyReceive(0, 2);
        x.destroyReceive(1, 1);
        return x;
    }

    /** The names of task 0 are all taken, one of each type but RECEIVE alone at least. */
    private static MachPortRights noFreeNameOfAnyType() {
        MachPortRights x = new MachPortRights(2, 16, 4, 2);
        x.allocate(0);
        x.giveSend(0, 1, 0);
        x.send(0, 1, 1, MAKE_SEND_ONCE);
        x.receive(0, 1);
        x.allocate(1);
        x.giveSend(1, 1, 0);
        x.allocate(1);
        x.giveSend(1, 2, 0);
        x.destroyReceive(1, 2);
        return x;
    }

    private static void allocateTask() {
        for (int task : NO_TASKS) {
            refused(States::fresh, "allocate(" + task + ")", x -> x.allocate(task), ERR_TASK);
            refused(RefusalsTest::noPortLeft, "allocate(" + task + "), no port left", x -> x.allocate(task), ERR_TASK);
            refused(States::noFreeName, "allocate(" + task + "), no free name", x -> x.allocate(task), ERR_TASK);
        }
    }

    private static void allocatePorts() {
        for (int task = 0; task < 2; task++) {
            int taken = task;
            refused(RefusalsTest::noPortLeft, "allocate, P live ports", x -> x.allocate(taken), ERR_FULL);
            refused(RefusalsTest::noPortLeftSomeDead, "allocate, some dead", x -> x.allocate(taken), ERR_FULL);
            refused(RefusalsTest::noPortLeftAllDead, "allocate, all dead", x -> x.allocate(taken), ERR_FULL);
        }
    }

    private static void allocateNames() {
        refused(States::noFreeName, "allocate(0), no free name", x -> x.allocate(0), ERR_FULL);
        refused(States::noFreeName, "allocate(1), no free name", x -> x.allocate(1), ERR_FULL);
        MachPortRights mixed = noFreeNameOfAnyType();
        int[] types = {RECEIVE_SEND, SEND_ONCE, SEND, DEAD};
        for (int name = 1; name <= 4; name++) {
            due("nameType(0, " + name + ")", mixed.nameType(0, name), types[name - 1]);
        }
        refused(RefusalsTest::noFreeNameOfAnyType, "allocate(0), no free name", x -> x.allocate(0), ERR_FULL);
        due("allocate(1), the other task", mixed.allocate(1), 2);
    }

    private static void giveSendTask() {
        for (int task : NO_TASKS) {
            String call = "giveSend(" + task + ", ";
            refused(States::aNameOfEachType, call + "1, 1)", x -> x.giveSend(task, 1, 1), ERR_TASK);
            refused(States::aNameOfEachType, call + "0, 1)", x -> x.giveSend(task, 0, 1), ERR_TASK);
            refused(States::aNameOfEachType, call + "1, 2)", x -> x.giveSend(task, 1, 2), ERR_TASK);
            refused(States::noFreeName, call + "1, 1)", x -> x.giveSend(task, 1, 1), ERR_TASK);
        }
    }

    private static void giveSendName() {
        withoutReceive("giveSend to a task", (x, name) -> x.giveSend(0, name, 1));
        withoutReceive("giveSend to no task", (x, name) -> x.giveSend(0, name, 2));
        for (int name : NO_NAMES) {
            refused(States::noFreeName, "giveSend(0, " + name + ", 1)", x -> x.giveSend(0, name, 1), ERR_NAME);
        }
        refused(RefusalsTest::noFreeNameOfAnyType, "giveSend(0, 3, 0), SEND, no free name",
            x -> x.giveSend(0, 3, 0), ERR_NAME);
    }

    private static void giveSendToTask() {
        for (int toTask : NO_TASKS) {
            String call = "giveSend(0, 1, " + toTask + ")";
            refused(States::aNameOfEachType, call, x -> x.giveSend(0, 1, toTask), ERR_ARG);
            refused(States::aNameOfEachType, call + " from RECEIVE|SEND", x -> x.giveSend(0, 2, toTask), ERR_ARG);
            refused(States::noFreeName, call + ", no free name", x -> x.giveSend(0, 1, toTask), ERR_ARG);
        }
    }

    private static void giveSendFull() {
        refused(States::noFreeName, "giveSend(0, 1, 1)", x -> x.giveSend(0, 1, 1), ERR_FULL);
        refused(States::noFreeName, "giveSend(1, 4, 0)", x -> x.giveSend(1, 4, 0), ERR_FULL);
        refused(RefusalsTest::onlySendOnceInFullTask, "giveSend(0, 1, 1), the task has SEND_ONCE for it",
            x -> x.giveSend(0, 1, 1), ERR_FULL);
    }

    /** Task 1 has no free name, and of port 0, which task 0 holds at 1, a send-once right alone. */
    private static MachPortRights onlySendOnceInFullTask() {
        MachPortRights x = new MachPortRights(2, 16, 4, 2);
        x.allocate(0);
        x.allocate(1);
        x.giveSend(1, 1, 0);
        x.send(0, 2, 1, MAKE_SEND_ONCE);
        x.receive(1, 1);
        x.allocate(1);
        x.allocate(1);
        return x;
    }

    private static void sendTask() {
        for (int task : NO_TASKS) {
            String call = "send(" + task + ", ";
            refused(States::aNameOfEachType, call + "3, 1, 0)", x -> x.send(task, 3, 1, DISP_NONE), ERR_TASK);
            refused(States::aNameOfEachType, call + "0, 1, 0)", x -> x.send(task, 0, 1, DISP_NONE), ERR_TASK);
            refused(States::aNameOfEachType, call + "3, 1, 7)", x -> x.send(task, 3, 1, 7), ERR_TASK);
            refused(States::aNameOfEachType, call + "3, 0, 1)", x -> x.send(task, 3, 0, MOVE_RECEIVE), ERR_TASK);
            refused(States::aNameOfEachType, call + "3, 3, 2)", x -> x.send(task, 3, 3, MOVE_SEND), ERR_TASK);
            refused(States::aNameOfEachType, call + "2, 2, 1)", x -> x.send(task, 2, 2, MOVE_RECEIVE), ERR_TASK);
            refused(States::fullQueues, call + "3, 1, 0)", x -> x.send(task, 3, 1, DISP_NONE), ERR_TASK);
        }
    }

    private static void sendDest() {
        int[] noDests = {1, 5, FREE_NAME};
        for (int dest : noDests) {
            wrongDest(dest);
        }
        for (int dest : NO_NAMES) {
            wrongDest(dest);
        }
        refused(States::fullQueues, "send(0, 1, 1, 0), RECEIVE of a full queue",
            x -> x.send(0, 1, 1, DISP_NONE), ERR_NAME);
        refused(States::aNameOfEachType, "send(0, 1, 1, 1), RECEIVE, into itself",
            x -> x.send(0, 1, 1, MOVE_RECEIVE), ERR_NAME);
    }

    private static void wrongDest(int dest) {
        String call = "send(0, " + dest + ", ";
        for (int disp = 0; disp <= 6; disp++) {
            int tried = disp;
            refused(States::aNameOfEachType, call + "2, " + disp + ")", x -> x.send(0, dest, 2, tried), ERR_NAME);
            refused(States::aNameOfEachType, call + "dest, " + disp + ")", x -> x.send(0, dest, dest, tried), ERR_NAME);
        }
        for (int disp : NO_DISPS) {
            refused(States::aNameOfEachType, call + "2, " + disp + ")", x -> x.send(0, dest, 2, disp), ERR_NAME);
        }
    }

    private static void sendDisp() {
        int[] carries = {1, 2, 3, 4, 5, FREE_NAME, 0, 9};
        for (int disp : NO_DISPS) {
            for (int carry : carries) {
                for (int dest = 2; dest <= 4; dest++) {
                    int to = dest;
                    String call = "send(0, " + dest + ", " + carry + ", " + disp + ")";
                    refused(States::aNameOfEachType, call, x -> x.send(0, to, carry, disp), ERR_ARG);
                }
                refused(States::fullQueues, "full: send(0, 3, " + carry + ", " + disp + ")",
                    x -> x.send(0, 3, carry, disp), ERR_ARG);
            }
        }
    }

    /** The names of aNameOfEachType that each disposition, 1 to 6, cannot take its right from. */
    private static final int[][] NO_CARRIES = {
        {}, {3, 4, 5, FREE_NAME}, {1, 4, 5, FREE_NAME}, {1, 4, 5, FREE_NAME}, {3, 4, 5, FREE_NAME},
        {1, 2, 3, 5, FREE_NAME}, {3, 4, 5, FREE_NAME}};

    private static void sendCarry() {
        for (int disp = 1; disp <= 6; disp++) {
            for (int carry : NO_CARRIES[disp]) {
                wrongCarry(carry, disp);
            }
            for (int carry : NO_NAMES) {
                wrongCarry(carry, disp);
            }
        }
    }

    /** Among these: carry == dest, a right for dest's own port, and a full queue, which all come later. */
    private static void wrongCarry(int carry, int disp) {
        for (int dest = 2; dest <= 4; dest++) {
            int to = dest;
            String call = "send(0, " + dest + ", " + carry + ", " + disp + ")";
            refused(States::aNameOfEachType, call, x -> x.send(0, to, carry, disp), ERR_NAME);
            refused(States::fullQueues, "full: " + call, x -> x.send(0, to, carry, disp), ERR_NAME);
        }
    }

    private static void sendCarryIsDest() {
        refused(States::aNameOfEachType, "send(0, 2, 2, 2), RECEIVE|SEND", x -> x.send(0, 2, 2, MOVE_SEND), ERR_ARG);
        refused(States::aNameOfEachType, "send(0, 3, 3, 2), SEND", x -> x.send(0, 3, 3, MOVE_SEND), ERR_ARG);
        refused(States::aNameOfEachType, "send(0, 4, 4, 5)", x -> x.send(0, 4, 4, MOVE_SEND_ONCE), ERR_ARG);
        refused(States::fullQueues, "full: send(0, 2, 2, 2)", x -> x.send(0, 2, 2, MOVE_SEND), ERR_ARG);
        refused(States::fullQueues, "full: send(0, 3, 3, 2)", x -> x.send(0, 3, 3, MOVE_SEND), ERR_ARG);
        refused(States::fullQueues, "full: send(0, 4, 4, 5)", x -> x.send(0, 4, 4, MOVE_SEND_ONCE), ERR_ARG);
        due("COPY_SEND with carry == dest is no refusal", States.aNameOfEachType().send(0, 3, 3, COPY_SEND), 2);
        due("MAKE_SEND with carry == dest is no refusal", States.aNameOfEachType().send(0, 2, 2, MAKE_SEND), 2);
        due("MAKE_SEND_ONCE with carry == dest is no refusal",
            States.aNameOfEachType().send(0, 2, 2, MAKE_SEND_ONCE), 2);
        due("DISP_NONE with carry == dest is no refusal", States.aNameOfEachType().send(0, 4, 4, DISP_NONE), 2);
    }

    private static void sendCycle() {
        refused(States::aNameOfEachType, "send(0, 2, 2, 1)", x -> x.send(0, 2, 2, MOVE_RECEIVE), ERR_CYCLE);
        refused(States::aNameOfEachType, "send(0, 4, 1, 1), by SEND_ONCE",
            x -> x.send(0, 4, 1, MOVE_RECEIVE), ERR_CYCLE);
        refused(States::chain, "send(0, 3, 3, 1)", x -> x.send(0, 3, 3, MOVE_RECEIVE), ERR_CYCLE);
        refused(States::chain, "send(0, 2, 3, 1)", x -> x.send(0, 2, 3, MOVE_RECEIVE), ERR_CYCLE);
        refused(States::chain, "send(0, 1, 3, 1)", x -> x.send(0, 1, 3, MOVE_RECEIVE), ERR_CYCLE);
        refused(States::fullQueues, "full: send(0, 2, 2, 1)", x -> x.send(0, 2, 2, MOVE_RECEIVE), ERR_CYCLE);
        refused(States::fullQueues, "full: send(0, 4, 1, 1)", x -> x.send(0, 4, 1, MOVE_RECEIVE), ERR_CYCLE);
        refused(RefusalsTest::fullChain, "full: send(0, 1, 3, 1)", x -> x.send(0, 1, 3, MOVE_RECEIVE), ERR_CYCLE);
        refused(RefusalsTest::fullChain, "full: send(0, 2, 3, 1)", x -> x.send(0, 2, 3, MOVE_RECEIVE), ERR_CYCLE);
    }

    private static MachPortRights fullChain() {
        MachPortRights x = States.chain();
        x.send(0, 1, 0, DISP_NONE);
        x.send(0, 1, 0, DISP_NONE);
        x.send(0, 2, 0, DISP_NONE);
        return x;
    }

    private static void sendFull() {
        int[][] sound = {
            {3, 0, DISP_NONE}, {3, 1, MOVE_RECEIVE}, {3, 2, MOVE_RECEIVE}, {3, 2, MOVE_SEND}, {2, 3, MOVE_SEND},
            {3, 2, COPY_SEND}, {3, 3, COPY_SEND}, {3, 1, MAKE_SEND}, {2, 2, MAKE_SEND}, {3, 4, MOVE_SEND_ONCE},
            {3, 1, MAKE_SEND_ONCE}, {2, 1, MAKE_SEND_ONCE}, {4, 0, DISP_NONE}, {4, 2, MOVE_RECEIVE}, {4, 2, MOVE_SEND},
            {4, 3, COPY_SEND}, {4, 1, MAKE_SEND}, {4, 1, MAKE_SEND_ONCE}};
        for (int[] row : sound) {
            String call = "send(0, " + row[0] + ", " + row[1] + ", " + row[2] + ")";
            due(call + ", not full", States.aNameOfEachType().send(0, row[0], row[1], row[2]), 2);
            refused(States::fullQueues, "full: " + call, x -> x.send(0, row[0], row[1], row[2]), ERR_FULL);
            refused(RefusalsTest::fullQueuesAndNotices, "full, with a notice: " + call,
                x -> x.send(0, row[0], row[1], row[2]), ERR_FULL);
        }
    }

    /** The ports 0 and 2 have their notice and are full besides; port 1 is armed and full. */
    private static MachPortRights fullQueuesAndNotices() {
        MachPortRights x = States.fullQueues();
        x.requestNoSenders(0, 1);
        x.requestNoSenders(0, 2);
        x.receive(1, 1);
        x.requestNoSenders(1, 1);
        x.deallocate(0, 3);
        x.giveSend(1, 1, 0);
        x.send(0, 3, 0, DISP_NONE);
        return x;
    }

    private static void receiveTask() {
        for (int task : NO_TASKS) {
            String call = "receive(" + task + ", ";
            refused(States::fullQueues, call + "1)", x -> x.receive(task, 1), ERR_TASK);
            refused(States::fullQueues, call + "0)", x -> x.receive(task, 0), ERR_TASK);
            refused(States::aNameOfEachType, call + "1), empty", x -> x.receive(task, 1), ERR_TASK);
            refused(RefusalsTest::noNameForHead, call + "1), no free name", x -> x.receive(task, 1), ERR_TASK);
        }
    }

    private static void receiveName() {
        withoutReceive("receive", (x, name) -> x.receive(0, name));
        int[] others = {2, 3, 4, 0, 5, -1};
        for (int name : others) {
            refused(RefusalsTest::noFreeNameOfAnyType, "receive(0, " + name + "), no free name",
                x -> x.receive(0, name), ERR_NAME);
        }
    }

    private static void receiveEmpty() {
        refused(States::aNameOfEachType, "receive(0, 1), RECEIVE", x -> x.receive(0, 1), ERR_EMPTY);
        refused(States::aNameOfEachType, "receive(0, 2), RECEIVE|SEND", x -> x.receive(0, 2), ERR_EMPTY);
        refused(States::noFreeName, "receive(1, 4), no free name", x -> x.receive(1, 4), ERR_EMPTY);
        refused(RefusalsTest::drained, "receive(0, 2), drained", x -> x.receive(0, 2), ERR_EMPTY);
    }

    private static MachPortRights drained() {
        MachPortRights x = States.fullQueues();
        x.receive(0, 2);
        x.receive(0, 2);
        return x;
    }

    /** Task 1 has no free name, and the head of port 0, its name 1, is the right of this disposition for port 1. */
    private static MachPortRights noNameForHead(int disp) {
        MachPortRights x = new MachPortRights(2, 16, 4, 4);
        x.allocate(1);
        x.giveSend(1, 1, 0);
        x.allocate(0);
        x.giveSend(0, 2, 0);
        x.send(0, 1, 0, DISP_NONE);
        x.receive(1, 1);
        x.send(0, 1, 2, disp);
        x.send(0, 1, 0, DISP_NONE);
        x.allocate(1);
        x.allocate(1);
        x.allocate(1);
        return x;
    }

    private static MachPortRights noNameForHead() {
        return noNameForHead(MAKE_SEND);
    }

    private static void receiveFull() {
        int[] disps = {MOVE_RECEIVE, MOVE_SEND, COPY_SEND, MAKE_SEND, MAKE_SEND_ONCE};
        for (int disp : disps) {
            refused(() -> noNameForHead(disp), "receive(1, 1) of disposition " + disp, x -> x.receive(1, 1), ERR_FULL);
        }
        refused(RefusalsTest::noNameForSendOnce, "receive(1, 1) of a send-once right beside a send right",
            x -> x.receive(1, 1), ERR_FULL);
        refused(RefusalsTest::noNameForReceive, "receive(1, 1) of a receive right beside a send-once right",
            x -> x.receive(1, 1), ERR_FULL);
    }

    private static MachPortRights noNameForSendOnce() {
        MachPortRights x = new MachPortRights(2, 16, 4, 4);
        x.allocate(1);
        x.giveSend(1, 1, 0);
        x.allocate(0);
        x.giveSend(0, 2, 1);
        x.send(0, 1, 2, MAKE_SEND_ONCE);
        x.allocate(1);
        x.allocate(1);
        return x;
    }

    private static MachPortRights noNameForReceive() {
        MachPortRights x = onlySendOnceInFullTask();
        x.send(0, 2, 1, MOVE_RECEIVE);
        return x;
    }

    private static void deallocateTask() {
        for (int task : NO_TASKS) {
            String call = "deallocate(" + task + ", ";
            refused(States::aNameOfEachType, call + "3)", x -> x.deallocate(task, 3), ERR_TASK);
            refused(States::aNameOfEachType, call + "1)", x -> x.deallocate(task, 1), ERR_TASK);
            refused(States::aNameOfEachType, call + "0)", x -> x.deallocate(task, 0), ERR_TASK);
        }
    }

    private static void deallocateName() {
        refused(States::aNameOfEachType, "deallocate(0, 1), RECEIVE", x -> x.deallocate(0, 1), ERR_NAME);
        refused(States::aNameOfEachType, "deallocate(0, 6), free", x -> x.deallocate(0, FREE_NAME), ERR_NAME);
        for (int name : NO_NAMES) {
            refused(States::aNameOfEachType, "deallocate(0, " + name + ")", x -> x.deallocate(0, name), ERR_NAME);
        }
        for (int name = 2; name <= 5; name++) {
            due("deallocate(0, " + name + ")", States.aNameOfEachType().deallocate(0, name), OK);
        }
    }

    private static void destroyReceiveTask() {
        for (int task : NO_TASKS) {
            String call = "destroyReceive(" + task + ", ";
            refused(States::fullQueues, call + "1)", x -> x.destroyReceive(task, 1), ERR_TASK);
            refused(States::fullQueues, call + "0)", x -> x.destroyReceive(task, 0), ERR_TASK);
            refused(States::fullQueues, call + "3)", x -> x.destroyReceive(task, 3), ERR_TASK);
        }
    }

    private static void destroyReceiveName() {
        withoutReceive("destroyReceive", (x, name) -> x.destroyReceive(0, name));
        refused(States::chain, "destroyReceive(0, 1), in transit", x -> x.destroyReceive(0, 1), ERR_NAME);
    }

    private static void requestNoSendersTask() {
        for (int task : NO_TASKS) {
            String call = "requestNoSenders(" + task + ", ";
            refused(States::aNameOfEachType, call + "1)", x -> x.requestNoSenders(task, 1), ERR_TASK);
            refused(States::aNameOfEachType, call + "0)", x -> x.requestNoSenders(task, 0), ERR_TASK);
            refused(RefusalsTest::armedAndNoticed, call + "2), armed", x -> x.requestNoSenders(task, 2), ERR_TASK);
        }
    }

    private static void requestNoSendersName() {
        withoutReceive("requestNoSenders", (x, name) -> x.requestNoSenders(0, name));
        refused(RefusalsTest::armedAndNoticed, "requestNoSenders(0, 3), SEND of an armed port",
            x -> x.requestNoSenders(0, 3), ERR_NAME);
        refused(RefusalsTest::armedAndNoticed, "requestNoSenders(0, 4), SEND_ONCE of a port with a notice",
            x -> x.requestNoSenders(0, 4), ERR_NAME);
    }

    /** The ports 1 and 2 are armed, and port 0 has its notice. */
    private static MachPortRights armedAndNoticed() {
        MachPortRights x = States.aNameOfEachType();
        x.requestNoSenders(0, 1);
        x.requestNoSenders(0, 2);
        x.requestNoSenders(1, 1);
        return x;
    }

    private static void requestNoSendersState() {
        Supplier<MachPortRights> state = RefusalsTest::armedAndNoticed;
        refused(state, "requestNoSenders(0, 2), armed", x -> x.requestNoSenders(0, 2), ERR_STATE);
        refused(state, "requestNoSenders(1, 1), armed", x -> x.requestNoSenders(1, 1), ERR_STATE);
        refused(state, "requestNoSenders(0, 1), notice, S is 0", x -> x.requestNoSenders(0, 1), ERR_STATE);
        refused(() -> noticeAmongMessages(0), "notice alone, S is 1", x -> x.requestNoSenders(0, 1), ERR_STATE);
        refused(() -> noticeAmongMessages(1), "notice at the head", x -> x.requestNoSenders(0, 1), ERR_STATE);
        refused(() -> noticeAmongMessages(2), "notice before two", x -> x.requestNoSenders(0, 1), ERR_STATE);
        refused(RefusalsTest::noticeAtTheTail, "notice at the tail", x -> x.requestNoSenders(0, 1), ERR_STATE);
    }

    private static MachPortRights noticeAmongMessages(int after) {
        MachPortRights x = States.aNameOfEachType();
        x.requestNoSenders(0, 1);
        x.giveSend(0, 1, 1);
        for (int turn = 0; turn < after; turn++) {
            x.send(1, 2, 0, DISP_NONE);
        }
        return x;
    }

    private static MachPortRights noticeAtTheTail() {
        MachPortRights x = States.fullQueues();
        x.requestNoSenders(0, 1);
        return x;
    }

    private interface NameCall {
        int made(MachPortRights x, int name);
    }

    /** A call of task 0 for each of its names without RECEIVE and for each number that is no name. */
    private static void withoutReceive(String told, NameCall call) {
        int[] lacking = {3, 4, 5, FREE_NAME};
        for (int name : lacking) {
            ToIntFunction<MachPortRights> made = x -> call.made(x, name);
            refused(States::aNameOfEachType, told + " by name " + name, made, ERR_NAME);
            refused(States::fullQueues, told + " by name " + name + ", full", made, ERR_NAME);
        }
        for (int name : NO_NAMES) {
            ToIntFunction<MachPortRights> made = x -> call.made(x, name);
            refused(States::aNameOfEachType, told + " by name " + name, made, ERR_NAME);
            refused(States::fullQueues, told + " by name " + name + ", full", made, ERR_NAME);
        }
        due(told + " by RECEIVE is not ERR_NAME", call.made(States.aNameOfEachType(), 1) == ERR_NAME, false);
        due(told + " by RECEIVE|SEND is not ERR_NAME", call.made(States.aNameOfEachType(), 2) == ERR_NAME, false);
    }
}
