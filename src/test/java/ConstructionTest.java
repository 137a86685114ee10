/** Promise 1: any sizes are taken and clamped, and a new object is empty. */
final class ConstructionTest extends Checks {
    public static void main(String[] args) {
        sizesAreClamped();
        startIsEmpty();
        recordAtTheStart();
        counterAtTheStart();
        objectsAreApart();
        anySizesGoOn();
        end();
    }

    private static void sizesAreClamped() {
        int[] given = {Integer.MIN_VALUE, -1, 0, 1, 2, 3, 4, 5, 6, 7, 8, 9, 15, 16, 17, 1000, Integer.MAX_VALUE};
        for (int size : given) {
            due("T of " + size, tasksOf(new MachPortRights(size, 16, 8, 8)), between(size, 2, 4));
            due("P of " + size, portsOf(new MachPortRights(2, size, 8, 8)), between(size, 4, 16));
            due("N of " + size, namesOf(new MachPortRights(2, 16, size, 8)), between(size, 4, 8));
            due("Q of " + size, queueOf(new MachPortRights(2, 16, 8, size)), between(size, 2, 8));
        }
    }

    private static int between(int value, int least, int greatest) {
        return Math.max(least, Math.min(greatest, value));
    }

    private static int tasksOf(MachPortRights x) {
        int count = 0;
        for (int task = 0; task < 20; task++) {
            count += x.deallocate(task, 1) == ERR_NAME ? 1 : 0;
        }
        return count;
    }

    private static int portsOf(MachPortRights x) {
        int count = 0;
        for (int turn = 0; turn < 20; turn++) {
            count += x.allocate(turn % 2) > 0 ? 1 : 0;
        }
        return count;
    }

    private static int namesOf(MachPortRights x) {
        int count = 0;
        for (int turn = 0; turn < 20; turn++) {
            count += x.allocate(1) > 0 ? 1 : 0;
        }
        return count;
    }

    private static int queueOf(MachPortRights x) {
        x.allocate(0);
        x.giveSend(0, 1, 0);
        int count = 0;
        for (int turn = 0; turn < 20; turn++) {
            count += x.send(0, 1, 0, DISP_NONE) > 0 ? 1 : 0;
        }
        return count;
    }

    /** "At the start all names of all tasks are free, no port is allocated": at every size, and beyond it. */
    private static void startIsEmpty() {
        int[][] sizes = {{2, 4, 4, 2}, {3, 9, 5, 4}, {4, 16, 8, 8}, {-1, -1, -1, -1}, {99, 99, 99, 99}};
        for (int[] size : sizes) {
            MachPortRights x = new MachPortRights(size[0], size[1], size[2], size[3]);
            for (int task = -1; task <= 4; task++) {
                for (int name = -1; name <= 9; name++) {
                    dueName(x, task, name, 0, -1);
                }
            }
            for (int port = -1; port <= 16; port++) {
                duePort(x, port, PORT_NONE, 0, 0);
                due("isArmed(" + port + ")", x.isArmed(port), false);
                due("queueLength(" + port + ")", x.queueLength(port), 0);
                dueMessage(x, port, 0, -1, -1, -1);
            }
        }
    }

    /** "the last-received record is (0, KIND_NONE, 0, -1)", also where the first receive is refused. */
    private static void recordAtTheStart() {
        MachPortRights x = new MachPortRights(2, 4, 4, 2);
        dueRecord(x, 0, KIND_NONE, 0, -1);
        x.allocate(0);
        due("receive(0, 1)", x.receive(0, 1), ERR_EMPTY);
        dueRecord(x, 0, KIND_NONE, 0, -1);
    }

    /** "the id counter is 0": the first message gets 1. */
    private static void counterAtTheStart() {
        MachPortRights x = new MachPortRights(4, 16, 8, 8);
        x.allocate(0);
        due("requestNoSenders(0, 1), the first message", x.requestNoSenders(0, 1), 1);
        x.giveSend(0, 1, 1);
        due("send(1, 1, 0, 0), the second", x.send(1, 1, 0, DISP_NONE), 2);
    }

    private static void objectsAreApart() {
        MachPortRights x = new MachPortRights(4, 16, 8, 8);
        x.allocate(0);
        x.requestNoSenders(0, 1);
        x.receive(0, 1);
        MachPortRights other = new MachPortRights(4, 16, 8, 8);
        dueRecord(other, 0, KIND_NONE, 0, -1);
        due("allocate(0) of another object", other.allocate(0), 1);
        due("namePort(0, 1) of another object", other.namePort(0, 1), 0);
        due("queueLength(0) of another object", other.queueLength(0), 0);
        due("requestNoSenders(0, 1) of another object", other.requestNoSenders(0, 1), 1);
    }

    /** "accepts any int values": no sizes make a call throw or fail to end. */
    private static void anySizesGoOn() {
        int[] sizes = {Integer.MIN_VALUE, -1, 0, 3, 7, 17, Integer.MAX_VALUE};
        for (int tasks : sizes) {
            for (int ports : sizes) {
                for (int names : sizes) {
                    for (int queue : sizes) {
                        String same = goOn(new MachPortRights(tasks, ports, names, queue));
                        MachPortRights clamped = new MachPortRights(
                            between(tasks, 2, 4), between(ports, 4, 16), between(names, 4, 8), between(queue, 2, 8));
                        due("clamped sizes go on as the others", goOn(clamped), same);
                    }
                }
            }
        }
    }
}
