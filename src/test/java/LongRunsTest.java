import java.util.TreeMap;

/** Promises 1 to 16 and "Always true": many long runs of calls, each answer and each state set against the model. */
final class LongRunsTest extends Checks {
    private static final int RUNS = 1500;
    private static final int CALLS = 160;
    private static final int[] ODD = {Integer.MIN_VALUE, -1, 0, 9, Integer.MAX_VALUE};

    private static long seed = 20261115;
    private static final TreeMap<String, Integer> met = new TreeMap<>();

    public static void main(String[] args) {
        for (int run = 0; run < RUNS && wrongSoFar() == 0; run++) {
            longRun(run);
        }
        everyAnswerWasMet();
        end();
    }

    /** A fixed row of numbers that only looks random: each run of this test makes the same calls. */
    private static int below(int bound) {
        seed = seed * 6364136223846793005L + 1442695040888963407L;
        return (int) ((seed >>> 33) % bound);
    }

    private static void longRun(int run) {
        int tasks = 2 + below(3);
        int ports = 4 + below(13);
        int names = 4 + below(5);
        int queue = 2 + below(run % 2 == 0 ? 2 : 7);
        MachPortRights x = new MachPortRights(tasks, ports, names, queue);
        Model model = new Model(tasks, ports, names, queue);
        StringBuilder told = new StringBuilder("new(" + tasks + ", " + ports + ", " + names + ", " + queue + ")");
        due("the state at the start", seen(x), model.seen());
        for (int turn = 0; turn < CALLS && wrongSoFar() == 0; turn++) {
            int[] call = nextCall(x, tasks, names);
            String text = textOf(call);
            told.append(' ').append(text);
            int got = made(x, call);
            due(text, got, made(model, call));
            due("the state after " + text, seen(x), model.seen());
            countsAreRight(x);
            remember(x, call[0], got);
        }
        if (wrongSoFar() != 0) {
            System.out.println("the last call of: " + told);
        }
    }

    private static void remember(MachPortRights x, int method, int got) {
        met.merge(method + (got < 0 ? " refused " + got : got == 0 ? " OK" : " done"), 1, Integer::sum);
        if (method == 3 && got > 0) {
            met.merge("kind received " + x.lastReceived(1), 1, Integer::sum);
        }
        if (method == 5 && got > 2) {
            met.merge("three died or more", 1, Integer::sum);
        }
    }

    private static int[] nextCall(MachPortRights x, int tasks, int names) {
        int[] often = {0, 1, 1, 1, 2, 2, 2, 2, 2, 2, 2, 2, 3, 3, 3, 4, 6};
        // Deaths come seldom, or there would be little left to die.
        int method = below(40) == 0 ? 5 : often[below(often.length)];
        int task = below(60) == 0 ? ODD[below(ODD.length)] : below(tasks);
        int disp = below(40) == 0 ? ODD[below(ODD.length)] : below(4) == 0 ? MOVE_RECEIVE : below(7);
        int[] wanted = {0, RECEIVE, SEND | SEND_ONCE, RECEIVE, SEND | SEND_ONCE | DEAD, RECEIVE, RECEIVE};
        int[] carried = {0, RECEIVE, SEND, SEND, RECEIVE, SEND_ONCE, RECEIVE};
        int name = nameWith(x, task, names, wanted[method]);
        int carry = nameWith(x, task, names, disp >= 0 && disp < 7 ? carried[disp] : 0);
        int toTask = below(40) == 0 ? ODD[below(ODD.length)] : below(tasks);
        return new int[] {method, task, name, method == 1 ? toTask : carry, disp};
    }

    /** Most often a name that fits: a blind choice is refused nearly always, and tells little. */
    private static int nameWith(MachPortRights x, int task, int names, int wanted) {
        int name = below(40) == 0 ? ODD[below(ODD.length)] : 1 + below(names);
        for (int turn = 0; turn < 6 && (x.nameType(task, name) & wanted) == 0; turn++) {
            name = 1 + below(names);
        }
        return name;
    }

    private static String textOf(int[] call) {
        String[] methods = {
            "allocate", "giveSend", "send", "receive", "deallocate", "destroyReceive", "requestNoSenders"};
        int[] counts = {1, 3, 4, 2, 2, 2, 2};
        StringBuilder text = new StringBuilder(methods[call[0]]).append('(').append(call[1]);
        for (int at = 2; at <= counts[call[0]]; at++) {
            text.append(", ").append(call[at]);
        }
        return text.append(')').toString();
    }

    private static int made(MachPortRights x, int[] call) {
        switch (call[0]) {
            case 0: return x.allocate(call[1]);
            case 1: return x.giveSend(call[1], call[2], call[3]);
            case 2: return x.send(call[1], call[2], call[3], call[4]);
            case 3: return x.receive(call[1], call[2]);
            case 4: return x.deallocate(call[1], call[2]);
            case 5: return x.destroyReceive(call[1], call[2]);
            default: return x.requestNoSenders(call[1], call[2]);
        }
    }

    private static int made(Model x, int[] call) {
        switch (call[0]) {
            case 0: return x.allocate(call[1]);
            case 1: return x.giveSend(call[1], call[2], call[3]);
            case 2: return x.send(call[1], call[2], call[3], call[4]);
            case 3: return x.receive(call[1], call[2]);
            case 4: return x.deallocate(call[1], call[2]);
            case 5: return x.destroyReceive(call[1], call[2]);
            default: return x.requestNoSenders(call[1], call[2]);
        }
    }

    private static void countsAreRight(MachPortRights x) {
        for (int port = 0; port < 16; port++) {
            int state = x.portState(port);
            if (state == PORT_HELD || state == PORT_IN_TRANSIT) {
                String where = " of port " + port;
                int held = state == PORT_HELD ? 1 : 0;
                due("S" + where, x.sendRights(port), namesWith(x, SEND, port) + queued(x, KIND_SEND, port));
                due("O" + where, x.sendOnceRights(port), namesWith(x, SEND_ONCE, port) + queued(x, KIND_SEND_ONCE, port));
                due("names with RECEIVE" + where, namesWith(x, RECEIVE, port), held);
                due("queued receive rights" + where, queued(x, KIND_RECEIVE, port), 1 - held);
            }
        }
    }

    private static int namesWith(MachPortRights x, int bit, int port) {
        int count = 0;
        for (int task = 0; task < 4; task++) {
            for (int name = 1; name <= 8; name++) {
                count += x.namePort(task, name) == port && (x.nameType(task, name) & bit) != 0 ? 1 : 0;
            }
        }
        return count;
    }

    private static int queued(MachPortRights x, int kind, int port) {
        int count = 0;
        for (int holder = 0; holder < 16; holder++) {
            for (int pos = 0; pos < x.queueLength(holder); pos++) {
                count += x.queueAt(holder, pos, 1) == kind && x.queueAt(holder, pos, 2) == port ? 1 : 0;
            }
        }
        return count;
    }

    /** Runs that miss an answer would pass without having tested it. */
    private static void everyAnswerWasMet() {
        String[] all = {
            "0 done", "0 refused -1", "0 refused -4",
            "1 done", "1 refused -1", "1 refused -2", "1 refused -3", "1 refused -4",
            "2 done", "2 refused -1", "2 refused -2", "2 refused -3", "2 refused -4", "2 refused -6",
            "3 done", "3 refused -1", "3 refused -2", "3 refused -4", "3 refused -5",
            "4 OK", "4 refused -1", "4 refused -2",
            "5 done", "5 refused -1", "5 refused -2",
            "6 OK", "6 done", "6 refused -1", "6 refused -2", "6 refused -7",
            "kind received 0", "kind received 1", "kind received 2", "kind received 3", "kind received 4",
            "kind received 5", "three died or more"};
        if (wrongSoFar() == 0) {
            for (String answer : all) {
                due("met " + answer, met.containsKey(answer), true);
            }
        }
    }
}
