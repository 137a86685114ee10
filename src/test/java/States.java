/** New objects brought to a state that several tests start from. */
final class States {
    private States() {
    }

    static MachPortRights fresh() {
        return new MachPortRights(2, 8, 8, 2);
    }

    /**
     * Task 0 has a name of each type: 1 RECEIVE of port 0, 2 RECEIVE|SEND of port 1, 3 SEND of port 2,
     * 4 SEND_ONCE of port 0, 5 DEAD for port 3; 6 to 8 are free. Task 1 has port 2 at its name 1. Two tasks,
     * eight ports, eight names, two messages; id 1 was received, and every queue is empty.
     */
    static MachPortRights aNameOfEachType() {
        MachPortRights x = fresh();
        x.allocate(0);
        x.allocate(0);
        x.giveSend(0, 2, 0);
        x.allocate(1);
        x.giveSend(1, 1, 0);
        x.send(0, 2, 1, Checks.MAKE_SEND_ONCE);
        x.receive(0, 2);
        x.allocate(1);
        x.giveSend(1, 2, 0);
        x.destroyReceive(1, 2);
        return x;
    }

    /** As aNameOfEachType, with the queues of the ports 0, 1 and 2 full; ids to 7 are used. */
    static MachPortRights fullQueues() {
        MachPortRights x = aNameOfEachType();
        for (int turn = 0; turn < 2; turn++) {
            x.send(0, 2, 0, Checks.DISP_NONE);
            x.send(0, 3, 0, Checks.DISP_NONE);
        }
        x.giveSend(0, 1, 1);
        x.send(1, 2, 0, Checks.DISP_NONE);
        x.send(1, 2, 0, Checks.DISP_NONE);
        x.deallocate(1, 2);
        return x;
    }

    /** Two tasks of four names, all of them taken: task 0 has the ports 0 to 3, task 1 the ports 4 to 7. */
    static MachPortRights noFreeName() {
        MachPortRights x = new MachPortRights(2, 16, 4, 2);
        for (int port = 0; port < 8; port++) {
            x.allocate(port / 4);
        }
        return x;
    }

    /**
     * Task 0 can send to the ports 0, 1 and 2 by its names 1, 2 and 3 and holds port 2; port 0 rides in port 1,
     * and that one in port 2. Task 0 holds port 3 too, at 4, as RECEIVE|SEND.
     */
    static MachPortRights chain() {
        MachPortRights x = new MachPortRights(2, 8, 8, 2);
        for (int name = 1; name <= 4; name++) {
            x.allocate(0);
            x.giveSend(0, name, 0);
        }
        x.send(0, 2, 1, Checks.MOVE_RECEIVE);
        x.send(0, 3, 2, Checks.MOVE_RECEIVE);
        return x;
    }
}
