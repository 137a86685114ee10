import java.util.ArrayList;
import java.util.List;

/**
 * Every call there is, with every argument from just below its range to just above it, in some dozen states of
 * a small object: its answer and what it changes are the model's, and a refused one changes nothing at all.
 */
final class EveryCallTest extends Checks {
    private static final int TASKS = 2;
    private static final int PORTS = 7;
    private static final int NAMES = 4;
    private static final int QUEUE = 2;
    private static final int[] LEAST = {0, -1, -1, -1, -1};

    public static void main(String[] args) {
        Choices choices = new Choices(16, 60);
        for (int turn = 0; turn < 12 && wrongSoFar() == 0; turn++) {
            everyCallAfter(someCalls(choices, 4 * turn));
        }
        end();
    }

    private static List<int[]> someCalls(Choices choices, int count) {
        MachPortRights x = new MachPortRights(TASKS, PORTS, NAMES, QUEUE);
        List<int[]> calls = new ArrayList<>();
        while (calls.size() < count) {
            int[] call = choices.nextCall(x, TASKS, NAMES);
            if (Calls.made(x, call) >= 0) {
                calls.add(call);
            }
        }
        return calls;
    }

    private static MachPortRights after(List<int[]> calls) {
        MachPortRights x = new MachPortRights(TASKS, PORTS, NAMES, QUEUE);
        for (int[] call : calls) {
            Calls.made(x, call);
        }
        return x;
    }

    private static Model modelAfter(List<int[]> calls) {
        Model model = new Model(TASKS, PORTS, NAMES, QUEUE);
        for (int[] call : calls) {
            Calls.made(model, call);
        }
        return model;
    }

    private static void everyCallAfter(List<int[]> calls) {
        String untouched = seen(after(calls));
        String untouchedGoesOn = goOn(after(calls));
        for (int method = Calls.ALLOCATE; method <= Calls.REQUEST_NO_SENDERS; method++) {
            int[] call = LEAST.clone();
            call[0] = method;
            do {
                MachPortRights x = after(calls);
                Model model = modelAfter(calls);
                String text = Calls.textOf(call);
                int got = Calls.made(x, call);
                due(text, got, Calls.made(model, call));
                due("the state after " + text, seen(x), got < 0 ? untouched : model.seen());
                if (got < 0) {
                    due("what follows " + text, goOn(x), untouchedGoesOn);
                }
            } while (next(call));
        }
        if (wrongSoFar() != 0) {
            StringBuilder told = new StringBuilder("each after");
            for (int[] call : calls) {
                told.append(' ').append(Calls.textOf(call));
            }
            System.out.println(told);
        }
    }

    /** The next row of arguments, counted up like a number's digits; false after the last. */
    private static boolean next(int[] call) {
        int[] greatest = {0, TASKS, NAMES + 1, call[0] == Calls.GIVE_SEND ? TASKS : NAMES + 1, 7};
        for (int at = 1; at <= Calls.arguments(call[0]); at++) {
            if (call[at] < greatest[at]) {
                call[at]++;
                return true;
            }
            call[at] = LEAST[at];
        }
        return false;
    }
}
