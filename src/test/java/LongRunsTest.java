import java.util.TreeMap;

/** Promises 1 to 16: many long runs of calls, each answer and each state set against the model. */
final class LongRunsTest extends Checks {
    private static final TreeMap<String, Integer> met = new TreeMap<>();

    public static void main(String[] args) {
        Choices mostOften = new Choices(20261115, 40);
        for (int run = 0; run < 1500 && wrongSoFar() == 0; run++) {
            longRun(mostOften, run, 160);
        }
        everyAnswerWasMet();
        Choices seldomDying = new Choices(5, 1000);
        for (int run = 0; run < 12 && wrongSoFar() == 0; run++) {
            longRun(seldomDying, run, 4000);
        }
        end();
    }

    private static void longRun(Choices choices, int run, int calls) {
        int tasks = 2 + choices.below(3);
        int ports = 4 + choices.below(13);
        int names = 4 + choices.below(5);
        int queue = 2 + choices.below(run % 2 == 0 ? 2 : 7);
        MachPortRights x = new MachPortRights(tasks, ports, names, queue);
        Model model = new Model(tasks, ports, names, queue);
        StringBuilder told = new StringBuilder("new(" + tasks + ", " + ports + ", " + names + ", " + queue + ")");
        due("the state at the start", seen(x), model.seen());
        for (int turn = 0; turn < calls && wrongSoFar() == 0; turn++) {
            int[] call = choices.nextCall(x, tasks, names);
            String text = Calls.textOf(call);
            told.append(' ').append(text);
            int got = Calls.made(x, call);
            due(text, got, Calls.made(model, call));
            due("the state after " + text, seen(x), model.seen());
            remember(x, call[0], got);
        }
        if (wrongSoFar() != 0) {
            System.out.println("the last call of: " + told);
        }
    }

    private static void remember(MachPortRights x, int method, int got) {
        met.merge(method + (got < 0 ? " refused " + got : got == 0 ? " OK" : " done"), 1, Integer::sum);
        if (method == Calls.RECEIVE && got > 0) {
            met.merge("kind received " + x.lastReceived(1), 1, Integer::sum);
        }
        if (method == Calls.DESTROY_RECEIVE && got > 2) {
            met.merge("three died or more", 1, Integer::sum);
        }
    }

    /** Runs that miss an answer would pass without having tested it. */
    private static void everyAnswerWasMet() {
        String[] all = {
            "0 done", "0 refused -1", "0 refused -4",
            "1 done", "1 refused -1", "1 refused -2", "1 refused -3", "1 refused -4",
            "2 done", "2 refused -1", "2 refused -2", "2 refused -3", "2 refused -4", "2 refused -6",
            "3 done", "3 refused -1", "3 refused -2", "3 refused -4", "3 refused -5",
            "4 OK", "4 refused -1", "4 refused -2",
            "5 done", "5 refused -1", "5 refused -2",
            "6 OK", "6 done", "6 refused -1", "6 refused -2", "6 refused -7",
            "kind received 0", "kind received 1", "kind received 2", "kind received 3", "kind received 4",
            "kind received 5", "three died or more"};
        if (wrongSoFar() == 0) {
            for (String answer : all) {
                due("met " + answer, met.containsKey(answer), true);
            }
        }
    }
}
