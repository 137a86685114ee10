import java.util.LinkedHashMap;
import java.util.Map;
import java.util.function.IntSupplier;
import java.util.function.Supplier;
import java.util.function.ToIntFunction;

/** What the tests share: the document's constants as it writes them, and the ways to compare. */
abstract class Checks {
    static final int RECEIVE = 1;
    static final int SEND = 2;
    static final int RECEIVE_SEND = 3;
    static final int SEND_ONCE = 4;
    static final int DEAD = 8;
    static final int DISP_NONE = 0;
    static final int MOVE_RECEIVE = 1;
    static final int MOVE_SEND = 2;
    static final int COPY_SEND = 3;
    static final int MAKE_SEND = 4;
    static final int MOVE_SEND_ONCE = 5;
    static final int MAKE_SEND_ONCE = 6;
    static final int KIND_NONE = 0;
    static final int KIND_SEND = 1;
    static final int KIND_SEND_ONCE = 2;
    static final int KIND_RECEIVE = 3;
    static final int KIND_NOTICE = 4;
    static final int KIND_DEAD = 5;
    static final int PORT_NONE = 0;
    static final int PORT_HELD = 1;
    static final int PORT_IN_TRANSIT = 2;
    static final int PORT_DEAD = 3;
    static final int OK = 0;
    static final int ERR_TASK = -1;
    static final int ERR_NAME = -2;
    static final int ERR_ARG = -3;
    static final int ERR_FULL = -4;
    static final int ERR_EMPTY = -5;
    static final int ERR_CYCLE = -6;
    static final int ERR_STATE = -7;

    private static int wrong = 0;

    static void due(String call, Object got, Object want) {
        if (!got.equals(want)) {
            wrong++;
            System.out.println(call + " answered " + got + ", due is " + want);
        }
    }

    /** A call that must answer this and leave all that can be seen as it was. */
    static void refused(MachPortRights x, String call, IntSupplier made, int want) {
        String before = seen(x);
        due(call, made.getAsInt(), want);
        due("the state after " + call, seen(x), before);
    }

    /**
     * A call that must answer this and change nothing, not even what no getter tells: the object must go on as
     * a twin does on which the call was never made.
     */
    static void refused(Supplier<MachPortRights> state, String call, ToIntFunction<MachPortRights> made, int want) {
        MachPortRights x = state.get();
        MachPortRights twin = state.get();
        due(call, made.applyAsInt(x), want);
        due("the state after " + call, seen(x), seen(twin));
        due("what follows " + call, goOn(x), goOn(twin));
    }

    /** The answers of a fixed row of calls, which tell the id counter, the ports left and who holds whom. */
    static String goOn(MachPortRights x) {
        StringBuilder text = new StringBuilder();
        for (int task = 0; task < 4; task++) {
            for (int name = 1; name <= 8; name++) {
                text.append(' ').append(x.requestNoSenders(task, name));
                text.append(' ').append(x.send(task, name, 0, DISP_NONE));
            }
        }
        for (int task = 0; task < 4; task++) {
            for (int name = 1; name <= 8; name++) {
                text.append(' ').append(x.receive(task, name));
                for (int carry = 1; carry <= 8; carry++) {
                    text.append(' ').append(x.send(task, name, carry, MOVE_RECEIVE));
                }
            }
            text.append(' ').append(x.allocate(task));
        }
        text.append(' ').append(seen(x));
        for (int task = 0; task < 4; task++) {
            for (int name = 1; name <= 8; name++) {
                text.append(' ').append(x.destroyReceive(task, name));
                text.append(' ').append(x.allocate(task));
                text.append(' ').append(x.requestNoSenders(task, name));
            }
        }
        return text.append(' ').append(seen(x)).toString();
    }

    static void dueName(MachPortRights x, int task, int name, int type, int port) {
        due("nameType(" + task + ", " + name + ")", x.nameType(task, name), type);
        due("namePort(" + task + ", " + name + ")", x.namePort(task, name), port);
    }

    static void duePort(MachPortRights x, int port, int state, int sends, int sendOnces) {
        due("portState(" + port + ")", x.portState(port), state);
        due("sendRights(" + port + ")", x.sendRights(port), sends);
        due("sendOnceRights(" + port + ")", x.sendOnceRights(port), sendOnces);
    }

    static void dueMessage(MachPortRights x, int port, int pos, int id, int kind, int carried) {
        String call = "queueAt(" + port + ", " + pos + ", ";
        due(call + "0)", x.queueAt(port, pos, 0), id);
        due(call + "1)", x.queueAt(port, pos, 1), kind);
        due(call + "2)", x.queueAt(port, pos, 2), carried);
    }

    static void dueRecord(MachPortRights x, int id, int kind, int name, int port) {
        due("lastReceived(0)", x.lastReceived(0), id);
        due("lastReceived(1)", x.lastReceived(1), kind);
        due("lastReceived(2)", x.lastReceived(2), name);
        due("lastReceived(3)", x.lastReceived(3), port);
    }

    /** All that the getters tell, a little beyond every range. */
    static String seen(MachPortRights x) {
        StringBuilder text = new StringBuilder("names");
        for (int task = -1; task <= 4; task++) {
            for (int name = -1; name <= 9; name++) {
                text.append(' ').append(x.nameType(task, name)).append(':').append(x.namePort(task, name));
            }
        }
        for (int port = -1; port <= 16; port++) {
            text.append("; port ").append(port).append(' ').append(x.portState(port));
            text.append(' ').append(x.sendRights(port)).append(' ').append(x.sendOnceRights(port));
            text.append(' ').append(x.isArmed(port)).append(' ').append(x.queueLength(port));
            for (int pos = -1; pos <= x.queueLength(port); pos++) {
                for (int field = -1; field <= 3; field++) {
                    text.append(field == -1 ? " " : ",").append(x.queueAt(port, pos, field));
                }
            }
        }
        text.append("; record");
        for (int field = -1; field <= 4; field++) {
            text.append(' ').append(x.lastReceived(field));
        }
        return text.toString();
    }

    /** A call on a new object of that state that must answer this and change these getters' answers, no others. */
    static void changed(Supplier<MachPortRights> state, String call, ToIntFunction<MachPortRights> made, int want,
            String... changes) {
        MachPortRights x = state.get();
        Map<String, Object> before = getters(x);
        due(call, made.applyAsInt(x), want);
        Map<String, Object> after = getters(x);
        for (String change : changes) {
            String getter = change.substring(0, change.indexOf(" = "));
            String value = change.substring(change.indexOf(" = ") + 3);
            due("after " + call + ", " + getter, String.valueOf(after.get(getter)), value);
            boolean was = String.valueOf(before.get(getter)).equals(value);
            due("before " + call + ", " + getter + " was " + value, was, false);
            before.remove(getter);
        }
        for (Map.Entry<String, Object> kept : before.entrySet()) {
            due("after " + call + ", " + kept.getKey(), after.get(kept.getKey()), kept.getValue());
        }
    }

    /** Each getter's call, a little beyond every range, with its answer. */
    private static Map<String, Object> getters(MachPortRights x) {
        Map<String, Object> answers = new LinkedHashMap<>();
        for (int task = -1; task <= 4; task++) {
            for (int name = -1; name <= 9; name++) {
                String at = "(" + task + ", " + name + ")";
                answers.put("nameType" + at, x.nameType(task, name));
                answers.put("namePort" + at, x.namePort(task, name));
            }
        }
        for (int port = -1; port <= 16; port++) {
            String at = "(" + port + ")";
            answers.put("portState" + at, x.portState(port));
            answers.put("sendRights" + at, x.sendRights(port));
            answers.put("sendOnceRights" + at, x.sendOnceRights(port));
            answers.put("queueLength" + at, x.queueLength(port));
            answers.put("isArmed" + at, x.isArmed(port));
            for (int pos = -1; pos <= 9; pos++) {
                for (int field = -1; field <= 3; field++) {
                    answers.put("queueAt(" + port + ", " + pos + ", " + field + ")", x.queueAt(port, pos, field));
                }
            }
        }
        for (int field = -1; field <= 4; field++) {
            answers.put("lastReceived(" + field + ")", x.lastReceived(field));
        }
        return answers;
    }

    static int wrongSoFar() {
        return wrong;
    }

    static void end() {
        if (wrong != 0) {
            System.out.println(wrong + " answers are not as due");
            System.exit(1);
        }
    }
}
