/** The shared rule "Cycles". */
final class CyclesRuleTest extends Checks {
    public static void main(String[] args) {
        intoItself();
        chainsOfEveryLength();
        everyPortOfTheChainCounts();
        othersMayRide();
        onlyMoveReceiveIsRefused();
        chainEndsWhereAPortIsHeld();
        chainEndsAfterADeath();
        holderIsTheLastOne();
        siblingsAreNoCycle();
        end();
    }

    /** The ports 0 to count-1, each RECEIVE|SEND at its number plus 1 of task 0. */
    private static MachPortRights ports(int count) {
        MachPortRights x = new MachPortRights(2, 16, 8, 8);
        for (int name = 1; name <= count; name++) {
            x.allocate(0);
            x.giveSend(0, name, 0);
        }
        return x;
    }

    /** As ports, where port 0 rides in port 1, that one in port 2, and so on; the last is held. */
    private static MachPortRights chain(int count) {
        MachPortRights x = ports(count);
        for (int name = 1; name < count; name++) {
            x.send(0, name + 1, name, MOVE_RECEIVE);
        }
        return x;
    }

    /** "refused if c == d": by the same name, and by a SEND_ONCE name beside RECEIVE. */
    private static void intoItself() {
        refused(() -> ports(1), "send(0, 1, 1, 1)", x -> x.send(0, 1, 1, MOVE_RECEIVE), ERR_CYCLE);
        refused(States::aNameOfEachType, "send(0, 4, 1, 1)", x -> x.send(0, 4, 1, MOVE_RECEIVE), ERR_CYCLE);
        MachPortRights x = States.aNameOfEachType();
        due("send(0, 4, 2, 1), another port's", x.send(0, 4, 2, MOVE_RECEIVE), 2);
    }

    /** "or if some port of the chain holder(d), holder(holder(d)), ... equals c": the last one. */
    private static void chainsOfEveryLength() {
        for (int count = 2; count <= 8; count++) {
            int ports = count;
            refused(() -> chain(ports), "send(0, 1, last, 1), " + count + " ports",
                x -> x.send(0, 1, ports, MOVE_RECEIVE), ERR_CYCLE);
        }
    }

    /** The same from each place in the chain. */
    private static void everyPortOfTheChainCounts() {
        for (int name = 1; name <= 8; name++) {
            int dest = name;
            refused(() -> chain(8), "send(0, " + name + ", 8, 1)", x -> x.send(0, dest, 8, MOVE_RECEIVE), ERR_CYCLE);
        }
    }

    /** A port that is not in the chain may ride with any of it. */
    private static void othersMayRide() {
        for (int name = 1; name <= 7; name++) {
            MachPortRights x = chain(7);
            x.allocate(0);
            due("send(0, " + name + ", 8, 1)", x.send(0, name, 8, MOVE_RECEIVE), 7);
            dueName(x, 0, 8, 0, -1);
            duePort(x, 7, PORT_IN_TRANSIT, 0, 0);
        }
    }

    /** "Moving the receive right of port c": other rights for it may go where it could not. */
    private static void onlyMoveReceiveIsRefused() {
        int[] disps = {DISP_NONE, MOVE_SEND, COPY_SEND, MAKE_SEND, MAKE_SEND_ONCE};
        for (int disp : disps) {
            due("send(0, 1, 3, " + disp + ")", chain(3).send(0, 1, 3, disp), 3);
        }
    }

    /** "followed while the current port is PORT_IN_TRANSIT": what was once a holder is none now. */
    private static void chainEndsWhereAPortIsHeld() {
        MachPortRights x = chain(3);
        due("receive(0, 3), port 1 is held again", x.receive(0, 3), 2);
        due("send(0, 2, 3, 1)", x.send(0, 2, 3, MOVE_RECEIVE), 3);
        refused(x, "send(0, 3, 2, 1), the other way now", () -> x.send(0, 3, 2, MOVE_RECEIVE), ERR_CYCLE);
        MachPortRights y = chain(3);
        y.receive(0, 3);
        due("send(0, 1, 3, 1), beyond the gap", y.send(0, 1, 3, MOVE_RECEIVE), 3);
        refused(y, "send(0, 3, 2, 1), port 1 holds 0, that one 2", () -> y.send(0, 3, 2, MOVE_RECEIVE), ERR_CYCLE);
        refused(y, "send(0, 1, 2, 1)", () -> y.send(0, 1, 2, MOVE_RECEIVE), ERR_CYCLE);
    }

    private static void chainEndsAfterADeath() {
        MachPortRights x = chain(3);
        due("destroyReceive(0, 3)", x.destroyReceive(0, 3), 3);
        refused(x, "send(0, 1, 3, 1), all are dead", () -> x.send(0, 1, 3, MOVE_RECEIVE), ERR_NAME);
    }

    /** "holder(x) is the port whose queue holds the message": after a second ride it is the second one. */
    private static void holderIsTheLastOne() {
        MachPortRights x = ports(4);
        x.send(0, 2, 1, MOVE_RECEIVE);
        x.receive(0, 2);
        due("send(0, 3, 1, 1)", x.send(0, 3, 1, MOVE_RECEIVE), 2);
        due("send(0, 1, 2, 1), once its holder", x.send(0, 1, 2, MOVE_RECEIVE), 3);
        refused(x, "send(0, 1, 3, 1), its holder now", () -> x.send(0, 1, 3, MOVE_RECEIVE), ERR_CYCLE);
        refused(x, "send(0, 2, 3, 1), two steps", () -> x.send(0, 2, 3, MOVE_RECEIVE), ERR_CYCLE);
        due("send(0, 2, 4, 1)", x.send(0, 2, 4, MOVE_RECEIVE), 4);
    }

    /** The chain goes from d to its holders, not from d to what d holds, nor to what rides beside it. */
    private static void siblingsAreNoCycle() {
        MachPortRights x = ports(5);
        due("send(0, 3, 1, 1)", x.send(0, 3, 1, MOVE_RECEIVE), 1);
        due("send(0, 3, 2, 1)", x.send(0, 3, 2, MOVE_RECEIVE), 2);
        due("send(0, 4, 3, 1), with both of them", x.send(0, 4, 3, MOVE_RECEIVE), 3);
        due("send(0, 4, 5, 1), beside them", x.send(0, 4, 5, MOVE_RECEIVE), 4);
        refused(x, "send(0, 1, 4, 1)", () -> x.send(0, 1, 4, MOVE_RECEIVE), ERR_CYCLE);
        refused(x, "send(0, 2, 4, 1)", () -> x.send(0, 2, 4, MOVE_RECEIVE), ERR_CYCLE);
        refused(x, "send(0, 5, 4, 1)", () -> x.send(0, 5, 4, MOVE_RECEIVE), ERR_CYCLE);
    }
}
