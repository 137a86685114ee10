/** Promise 2: allocate. */
final class AllocateTest extends Checks {
    public static void main(String[] args) {
        portsAreNumberedInOrder();
        leastFreeNameIsTaken();
        portsRunOut();
        namesRunOut();
        idCounterIsUntouched();
        end();
    }

    private static void portsAreNumberedInOrder() {
        MachPortRights x = new MachPortRights(3, 8, 8, 4);
        due("allocate(2)", x.allocate(2), 1);
        due("allocate(0)", x.allocate(0), 1);
        due("allocate(2)", x.allocate(2), 2);
        dueName(x, 2, 1, RECEIVE, 0);
        dueName(x, 0, 1, RECEIVE, 1);
        dueName(x, 2, 2, RECEIVE, 2);
        for (int port = 0; port < 3; port++) {
            duePort(x, port, PORT_HELD, 0, 0);
            due("isArmed", x.isArmed(port), false);
            due("queueLength", x.queueLength(port), 0);
        }
        duePort(x, 3, PORT_NONE, 0, 0);
        refused(x, "allocate(-1)", () -> x.allocate(-1), ERR_TASK);
        refused(x, "allocate(3)", () -> x.allocate(3), ERR_TASK);
        refused(x, "allocate(least)", () -> x.allocate(Integer.MIN_VALUE), ERR_TASK);
        refused(x, "allocate(greatest)", () -> x.allocate(Integer.MAX_VALUE), ERR_TASK);
    }

    private static void leastFreeNameIsTaken() {
        MachPortRights x = new MachPortRights(2, 8, 8, 4);
        x.allocate(0);
        x.allocate(0);
        x.allocate(0);
        due("destroyReceive(0, 3)", x.destroyReceive(0, 3), 1);
        due("destroyReceive(0, 1)", x.destroyReceive(0, 1), 1);
        due("allocate(0)", x.allocate(0), 1);
        dueName(x, 0, 1, RECEIVE, 3);
        due("allocate(0)", x.allocate(0), 3);
        dueName(x, 0, 3, RECEIVE, 4);
        due("portState(0)", x.portState(0), PORT_DEAD);
        due("allocate(0)", x.allocate(0), 4);
    }

    private static void portsRunOut() {
        MachPortRights x = new MachPortRights(2, 4, 8, 4);
        for (int turn = 0; turn < 4; turn++) {
            due("allocate(0)", x.allocate(0), 1);
            due("destroyReceive(0, 1)", x.destroyReceive(0, 1), 1);
        }
        refused(x, "allocate(0), dead ports count", () -> x.allocate(0), ERR_FULL);
        refused(x, "allocate(1)", () -> x.allocate(1), ERR_FULL);
        refused(x, "allocate(2)", () -> x.allocate(2), ERR_TASK);
    }

    private static void namesRunOut() {
        MachPortRights x = new MachPortRights(2, 16, 4, 4);
        for (int name = 1; name <= 4; name++) {
            due("allocate(0)", x.allocate(0), name);
        }
        refused(x, "allocate(0), no free name", () -> x.allocate(0), ERR_FULL);
        due("allocate(1)", x.allocate(1), 1);
        dueName(x, 1, 1, RECEIVE, 4);
    }

    private static void idCounterIsUntouched() {
        MachPortRights x = new MachPortRights(2, 8, 4, 4);
        x.allocate(0);
        due("requestNoSenders(0, 1)", x.requestNoSenders(0, 1), 1);
        x.allocate(0);
        x.allocate(7);
        due("requestNoSenders(0, 2)", x.requestNoSenders(0, 2), 2);
        dueRecord(x, 0, KIND_NONE, 0, -1);
    }
}
