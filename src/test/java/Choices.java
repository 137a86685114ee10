/** A fixed row of calls that only looks random: the same seed always gives the same calls. */
final class Choices {
    private static final int[] ODD = {Integer.MIN_VALUE, -1, 0, 9, Integer.MAX_VALUE};

    private long seed;
    private final int deathsEvery;

    /** One call in so many is a death: they come seldom, or there would be little left to die. */
    Choices(long seed, int deathsEvery) {
        this.seed = seed;
        this.deathsEvery = deathsEvery;
    }

    int below(int bound) {
        seed = seed * 6364136223846793005L + 1442695040888963407L;
        return (int) ((seed >>> 33) % bound);
    }

    int[] nextCall(MachPortRights x, int tasks, int names) {
        int[] often = {0, 1, 1, 1, 2, 2, 2, 2, 2, 2, 2, 2, 3, 3, 3, 4, 6};
        int method = below(deathsEvery) == 0 ? Calls.DESTROY_RECEIVE : often[below(often.length)];
        int task = below(60) == 0 ? ODD[below(ODD.length)] : below(tasks);
        int disp = below(40) == 0 ? ODD[below(ODD.length)] : below(4) == 0 ? Checks.MOVE_RECEIVE : below(7);
        int anySend = Checks.SEND | Checks.SEND_ONCE;
        int[] wanted = {
            0, Checks.RECEIVE, anySend, Checks.RECEIVE, anySend | Checks.DEAD, Checks.RECEIVE, Checks.RECEIVE};
        int[] carried = {
            0, Checks.RECEIVE, Checks.SEND, Checks.SEND, Checks.RECEIVE, Checks.SEND_ONCE, Checks.RECEIVE};
        int name = nameWith(x, task, names, wanted[method]);
        int carry = nameWith(x, task, names, disp >= 0 && disp < 7 ? carried[disp] : 0);
        int toTask = below(40) == 0 ? ODD[below(ODD.length)] : below(tasks);
        return new int[] {method, task, name, method == Calls.GIVE_SEND ? toTask : carry, disp};
    }

    /** Most often a name that fits: a blind choice is refused nearly always, and tells little. */
    private int nameWith(MachPortRights x, int task, int names, int wanted) {
        int name = below(40) == 0 ? ODD[below(ODD.length)] : 1 + below(names);
        for (int turn = 0; turn < 6 && (x.nameType(task, name) & wanted) == 0; turn++) {
            name = 1 + below(names);
        }
        return name;
    }
}
