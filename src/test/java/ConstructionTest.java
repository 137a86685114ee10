/** Promise 1: any sizes are taken and clamped, and a new object is empty. */
final class ConstructionTest extends Checks {
    public static void main(String[] args) {
        sizesAreClamped();
        startIsEmpty();
        end();
    }

    private static void sizesAreClamped() {
        int[] given = {Integer.MIN_VALUE, -1, 0, 1, 2, 3, 4, 5, 6, 7, 8, 9, 15, 16, 17, 1000, Integer.MAX_VALUE};
        for (int size : given) {
            due("T of " + size, tasksOf(new MachPortRights(size, 16, 8, 8)), between(size, 2, 4));
            due("P of " + size, portsOf(new MachPortRights(2, size, 8, 8)), between(size, 4, 16));
            due("N of " + size, namesOf(new MachPortRights(2, 16, size, 8)), between(size, 4, 8));
            due("Q of " + size, queueOf(new MachPortRights(2, 16, 8, size)), between(size, 2, 8));
        }
    }

    private static int between(int value, int least, int greatest) {
        return Math.max(least, Math.min(greatest, value));
    }

    private static int tasksOf(MachPortRights x) {
        int count = 0;
        for (int task = 0; task < 20; task++) {
            count += x.deallocate(task, 1) == ERR_NAME ? 1 : 0;
        }
        return count;
    }

    private static int portsOf(MachPortRights x) {
        int count = 0;
        for (int turn = 0; turn < 20; turn++) {
            count += x.allocate(turn % 2) > 0 ? 1 : 0;
        }
        return count;
    }

    private static int namesOf(MachPortRights x) {
        int count = 0;
        for (int turn = 0; turn < 20; turn++) {
            count += x.allocate(1) > 0 ? 1 : 0;
        }
        return count;
    }

    private static int queueOf(MachPortRights x) {
        x.allocate(0);
        x.giveSend(0, 1, 0);
        int count = 0;
        for (int turn = 0; turn < 20; turn++) {
            count += x.send(0, 1, 0, DISP_NONE) > 0 ? 1 : 0;
        }
        return count;
    }

    private static void startIsEmpty() {
        MachPortRights x = new MachPortRights(4, 16, 8, 8);
        for (int task = 0; task < 4; task++) {
            for (int name = 1; name <= 8; name++) {
                dueName(x, task, name, 0, -1);
            }
        }
        for (int port = 0; port < 16; port++) {
            duePort(x, port, PORT_NONE, 0, 0);
            due("isArmed(" + port + ")", x.isArmed(port), false);
            due("queueLength(" + port + ")", x.queueLength(port), 0);
        }
        dueRecord(x, 0, KIND_NONE, 0, -1);
        x.allocate(0);
        due("requestNoSenders(0, 1), the first message", x.requestNoSenders(0, 1), 1);
        MachPortRights other = new MachPortRights(4, 16, 8, 8);
        due("allocate(0) of another object", other.allocate(0), 1);
        due("queueLength(0) of another object", other.queueLength(0), 0);
    }
}
