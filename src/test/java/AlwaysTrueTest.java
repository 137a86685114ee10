/**
 * The shared rule "Always true", with what "Names", "Ports" and "Sizes" say is always so, after each call of
 * many runs. It knows no answers, only these sentences.
 */
final class AlwaysTrueTest extends Checks {
    private static final int MOST_TASKS = 4;
    private static final int MOST_NAMES = 8;
    private static final int MOST_PORTS = 16;

    public static void main(String[] args) {
        Choices choices = new Choices(7, 40);
        for (int run = 0; run < 600 && wrongSoFar() == 0; run++) {
            run(choices);
        }
        end();
    }

    private static void run(Choices choices) {
        int tasks = 2 + choices.below(3);
        int names = 4 + choices.below(5);
        int queue = 2 + choices.below(7);
        MachPortRights x = new MachPortRights(tasks, 4 + choices.below(13), names, queue);
        for (int turn = 0; turn < 160 && wrongSoFar() == 0; turn++) {
            int[] call = choices.nextCall(x, tasks, names);
            int[] types = types(x);
            int[] ports = ports(x);
            int received = call[0] == Calls.RECEIVE ? carriedByHead(x, call) : -1;
            int got = Calls.made(x, call);
            rightsAreCounted(x);
            receiveRightIsInOnePlace(x);
            namesAreOfTheirTypes(x);
            queuesAreBounded(x, queue);
            gainsAreAllowed(x, call, got, types, ports, received);
        }
    }

    /** "S(p) equals the number of names ... plus the number of queued messages"; O(p) likewise. */
    private static void rightsAreCounted(MachPortRights x) {
        for (int port = 0; port < MOST_PORTS; port++) {
            boolean live = isLive(x, port);
            int sends = namesWith(x, SEND, port) + queued(x, KIND_SEND, port);
            int sendOnces = namesWith(x, SEND_ONCE, port) + queued(x, KIND_SEND_ONCE, port);
            due("S of port " + port, x.sendRights(port), live ? sends : 0);
            due("O of port " + port, x.sendOnceRights(port), live ? sendOnces : 0);
        }
    }

    /** "exactly one of these holds": a name has it, or a queued message on a live port. */
    private static void receiveRightIsInOnePlace(MachPortRights x) {
        for (int port = 0; port < MOST_PORTS; port++) {
            int state = x.portState(port);
            due("names with RECEIVE for port " + port, namesWith(x, RECEIVE, port), state == PORT_HELD ? 1 : 0);
            due("messages with port " + port, queued(x, KIND_RECEIVE, port), state == PORT_IN_TRANSIT ? 1 : 0);
        }
    }

    /** "names with RECEIVE, SEND or SEND_ONCE denote live ports; DEAD names denote dead ports". */
    private static void namesAreOfTheirTypes(MachPortRights x) {
        for (int task = 0; task < MOST_TASKS; task++) {
            int[] joined = new int[MOST_PORTS];
            for (int name = 1; name <= MOST_NAMES; name++) {
                int type = x.nameType(task, name);
                int port = x.namePort(task, name);
                String where = " at name " + name + " of task " + task;
                boolean known = type >= 0 && type <= SEND_ONCE || type == DEAD;
                due("a type of the document" + where, known, true);
                due("a port" + where, port == -1, type == 0);
                if (type == DEAD) {
                    due("the state of the port" + where, x.portState(port), PORT_DEAD);
                } else if (type != 0) {
                    due("a live port" + where, isLive(x, port), true);
                }
                if ((type & (RECEIVE | SEND)) != 0) {
                    joined[port]++;
                    due("the only name with RECEIVE or SEND" + where, joined[port], 1);
                }
            }
        }
    }

    /** "at most Q ordinary messages plus at most one notice"; a dead port's queue "is empty forever". */
    private static void queuesAreBounded(MachPortRights x, int queue) {
        for (int port = 0; port < MOST_PORTS; port++) {
            int notices = 0;
            int length = x.queueLength(port);
            for (int pos = 0; pos < length; pos++) {
                notices += x.queueAt(port, pos, 1) == KIND_NOTICE ? 1 : 0;
                boolean rises = pos == 0 || x.queueAt(port, pos - 1, 0) < x.queueAt(port, pos, 0);
                due("ids rise in port " + port, rises, true);
            }
            due("one notice at most in port " + port, notices <= 1, true);
            due("Q ordinary messages at most in port " + port, length - notices <= queue, true);
            due("an armed port " + port + " has no notice yet", x.isArmed(port) && notices == 1, false);
            due("an armed port " + port + " has senders", x.isArmed(port) && x.sendRights(port) == 0, false);
            due("a queue only where port " + port + " is live", length > 0 && !isLive(x, port), false);
        }
    }

    /** "A name gains a RECEIVE, SEND or SEND_ONCE bit for a port only in allocate ..., giveSend ... or receive". */
    private static void gainsAreAllowed(MachPortRights x, int[] call, int got, int[] types, int[] ports, int received) {
        for (int task = 0; task < MOST_TASKS; task++) {
            for (int name = 1; name <= MOST_NAMES; name++) {
                int cell = task * MOST_NAMES + name - 1;
                int rights = x.nameType(task, name) & (RECEIVE | SEND | SEND_ONCE);
                int port = x.namePort(task, name);
                int had = ports[cell] == port ? types[cell] : 0;
                if ((rights & ~had) != 0) {
                    due(Calls.textOf(call) + " was refused", got < 0, false);
                    due(Calls.textOf(call) + " may add a right for port " + port + " to task " + task,
                        mayGain(call, task, port, rights & ~had, ports, received), true);
                }
            }
        }
    }

    private static boolean mayGain(int[] call, int task, int port, int gained, int[] ports, int received) {
        switch (call[0]) {
            case Calls.ALLOCATE:
                return call[1] == task && gained == RECEIVE && !denotedBefore(ports, port);
            case Calls.GIVE_SEND:
                return call[3] == task && gained == SEND && ports[call[1] * MOST_NAMES + call[2] - 1] == port;
            case Calls.RECEIVE:
                return call[1] == task && port == received;
            default:
                return false;
        }
    }

    private static boolean denotedBefore(int[] ports, int port) {
        for (int denoted : ports) {
            if (denoted == port) {
                return true;
            }
        }
        return false;
    }

    private static int carriedByHead(MachPortRights x, int[] call) {
        int port = x.namePort(call[1], call[2]);
        return x.queueAt(port, 0, 2);
    }

    private static int[] types(MachPortRights x) {
        int[] types = new int[MOST_TASKS * MOST_NAMES];
        for (int cell = 0; cell < types.length; cell++) {
            types[cell] = x.nameType(cell / MOST_NAMES, cell % MOST_NAMES + 1);
        }
        return types;
    }

    private static int[] ports(MachPortRights x) {
        int[] ports = new int[MOST_TASKS * MOST_NAMES];
        for (int cell = 0; cell < ports.length; cell++) {
            ports[cell] = x.namePort(cell / MOST_NAMES, cell % MOST_NAMES + 1);
        }
        return ports;
    }

    private static boolean isLive(MachPortRights x, int port) {
        return x.portState(port) == PORT_HELD || x.portState(port) == PORT_IN_TRANSIT;
    }

    private static int namesWith(MachPortRights x, int bit, int port) {
        int count = 0;
        for (int task = 0; task < MOST_TASKS; task++) {
            for (int name = 1; name <= MOST_NAMES; name++) {
                count += x.namePort(task, name) == port && (x.nameType(task, name) & bit) != 0 ? 1 : 0;
            }
        }
        return count;
    }

    private static int queued(MachPortRights x, int kind, int port) {
        int count = 0;
        for (int holder = 0; holder < MOST_PORTS; holder++) {
            int length = x.queueLength(holder);
            for (int pos = 0; pos < length; pos++) {
                count += x.queueAt(holder, pos, 1) == kind && x.queueAt(holder, pos, 2) == port ? 1 : 0;
            }
        }
        return count;
    }
}
