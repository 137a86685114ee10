import java.util.ArrayList;
import java.util.List;

/**
 * The document once more, in the plainest words: rights are not counted but looked for, in every name and
 * every queue, so that a slip in the program's counts cannot be made here in the same way.
 */
final class Model {
    private static final class Message {
        final int id;
        final int kind;
        final int port;

        Message(int id, int kind, int port) {
            this.id = id;
            this.kind = kind;
            this.port = port;
        }
    }

    private static final class Name {
        int type = 0;
        int port = -1;

        void free() {
            type = 0;
            port = -1;
        }
    }

    private static final class Port {
        int state = Checks.PORT_HELD;
        boolean armed = false;
        final List<Message> queue = new ArrayList<>();
    }

    private final Name[][] names;
    private final List<Port> ports = new ArrayList<>();
    private final int portLimit;
    private final int queueLimit;
    private int counter = 0;
    private int[] record = {0, Checks.KIND_NONE, 0, -1};

    /** The sizes must be within their ranges. */
    Model(int tasks, int portLimit, int nameLimit, int queueLimit) {
        names = new Name[tasks][nameLimit + 1];
        for (Name[] space : names) {
            for (int name = 1; name < space.length; name++) {
                space[name] = new Name();
            }
        }
        this.portLimit = portLimit;
        this.queueLimit = queueLimit;
    }

    int allocate(int task) {
        if (!isTask(task)) {
            return Checks.ERR_TASK;
        }
        if (ports.size() == portLimit || leastFree(task) == 0) {
            return Checks.ERR_FULL;
        }
        int least = leastFree(task);
        names[task][least].type = Checks.RECEIVE;
        names[task][least].port = ports.size();
        ports.add(new Port());
        return least;
    }

    int giveSend(int task, int name, int toTask) {
        int refusal = withoutReceive(task, name);
        if (refusal != 0) {
            return refusal;
        }
        if (!isTask(toTask)) {
            return Checks.ERR_ARG;
        }
        int port = names[task][name].port;
        return landing(toTask, Checks.KIND_SEND, port) == 0
            ? Checks.ERR_FULL : copyOut(toTask, Checks.KIND_SEND, port);
    }

    int send(int task, int dest, int carry, int disp) {
        if (!isTask(task)) {
            return Checks.ERR_TASK;
        }
        int destType = type(task, dest);
        if (destType != Checks.SEND && destType != Checks.RECEIVE_SEND && destType != Checks.SEND_ONCE) {
            return Checks.ERR_NAME;
        }
        if (disp < 0 || disp > 6) {
            return Checks.ERR_ARG;
        }
        if (disp != 0 && !fits(type(task, carry), disp)) {
            return Checks.ERR_NAME;
        }
        if ((disp == Checks.MOVE_SEND || disp == Checks.MOVE_SEND_ONCE) && carry == dest) {
            return Checks.ERR_ARG;
        }
        int destPort = names[task][dest].port;
        if (disp == Checks.MOVE_RECEIVE && holders(destPort).contains(names[task][carry].port)) {
            return Checks.ERR_CYCLE;
        }
        long ordinary = ports.get(destPort).queue.stream().filter(m -> m.kind != Checks.KIND_NOTICE).count();
        if (ordinary == queueLimit) {
            return Checks.ERR_FULL;
        }
        if (destType == Checks.SEND_ONCE) {
            names[task][dest].free();
        }
        int carried = disp == 0 ? -1 : take(names[task][carry], disp);
        int[] kinds = {0, 3, 1, 1, 1, 2, 2};
        return append(destPort, kinds[disp], carried);
    }

    private static boolean fits(int type, int disp) {
        switch (disp) {
            case Checks.MOVE_SEND: case Checks.COPY_SEND:
                return type == Checks.SEND || type == Checks.RECEIVE_SEND;
            case Checks.MOVE_SEND_ONCE:
                return type == Checks.SEND_ONCE;
            default:
                return type == Checks.RECEIVE || type == Checks.RECEIVE_SEND;
        }
    }

    private int take(Name name, int disp) {
        int port = name.port;
        if (disp == Checks.MOVE_RECEIVE) {
            ports.get(port).state = Checks.PORT_IN_TRANSIT;
            lose(name, Checks.RECEIVE);
        } else if (disp == Checks.MOVE_SEND) {
            lose(name, Checks.SEND);
        } else if (disp == Checks.MOVE_SEND_ONCE) {
            name.free();
        }
        return port;
    }

    private static void lose(Name name, int type) {
        if (name.type == Checks.RECEIVE_SEND) {
            name.type = Checks.RECEIVE_SEND - type;
        } else {
            name.free();
        }
    }

    /** The port itself, and every port that holds it. */
    private List<Integer> holders(int port) {
        List<Integer> chain = new ArrayList<>();
        chain.add(port);
        for (int at = 0; at < chain.size(); at++) {
            for (int holder = 0; holder < ports.size(); holder++) {
                if (carries(holder, Checks.KIND_RECEIVE, chain.get(at)) > 0) {
                    chain.add(holder);
                }
            }
        }
        return chain;
    }

    int receive(int task, int name) {
        int refusal = withoutReceive(task, name);
        if (refusal != 0) {
            return refusal;
        }
        List<Message> queue = ports.get(names[task][name].port).queue;
        if (queue.isEmpty()) {
            return Checks.ERR_EMPTY;
        }
        Message head = queue.get(0);
        boolean plain = head.port == -1;
        boolean dead = !plain && ports.get(head.port).state == Checks.PORT_DEAD;
        if (!plain && !dead && landing(task, head.kind, head.port) == 0) {
            return Checks.ERR_FULL;
        }
        queue.remove(0);
        int into = plain || dead ? 0 : copyOut(task, head.kind, head.port);
        record = new int[] {head.id, dead ? Checks.KIND_DEAD : head.kind, into, head.port};
        return head.id;
    }

    private int landing(int task, int kind, int port) {
        for (int name = 1; name < names[task].length; name++) {
            Name it = names[task][name];
            boolean joins = it.type != 0 && it.type <= Checks.RECEIVE_SEND && it.port == port;
            if (joins && kind != Checks.KIND_SEND_ONCE) {
                return name;
            }
        }
        return leastFree(task);
    }

    private int copyOut(int task, int kind, int port) {
        int into = landing(task, kind, port);
        Name name = names[task][into];
        name.port = port;
        if (kind == Checks.KIND_SEND_ONCE) {
            name.type = Checks.SEND_ONCE;
        } else if (kind == Checks.KIND_SEND) {
            name.type |= Checks.SEND;
        } else {
            name.type |= Checks.RECEIVE;
            ports.get(port).state = Checks.PORT_HELD;
        }
        return into;
    }

    int deallocate(int task, int name) {
        if (!isTask(task)) {
            return Checks.ERR_TASK;
        }
        if (type(task, name) == 0 || type(task, name) == Checks.RECEIVE) {
            return Checks.ERR_NAME;
        }
        Name it = names[task][name];
        int port = it.port;
        boolean hadSend = it.type == Checks.SEND || it.type == Checks.RECEIVE_SEND;
        lose(it, Checks.SEND);
        if (hadSend) {
            noticeIfLast(port);
        }
        return Checks.OK;
    }

    private void noticeIfLast(int port) {
        Port it = ports.get(port);
        if (it.state != Checks.PORT_DEAD && it.armed && sends(port) == 0) {
            it.armed = false;
            append(port, Checks.KIND_NOTICE, -1);
        }
    }

    int destroyReceive(int task, int name) {
        int refusal = withoutReceive(task, name);
        if (refusal != 0) {
            return refusal;
        }
        List<Integer> worklist = new ArrayList<>();
        worklist.add(names[task][name].port);
        int died = 0;
        while (!worklist.isEmpty()) {
            die(worklist.remove(0), worklist);
            died++;
        }
        return died;
    }

    private void die(int port, List<Integer> worklist) {
        for (Name[] space : names) {
            for (int name = 1; name < space.length; name++) {
                if (space[name].port == port && space[name].type == Checks.RECEIVE) {
                    space[name].free();
                } else if (space[name].port == port) {
                    space[name].type = Checks.DEAD;
                }
            }
        }
        Port it = ports.get(port);
        it.state = Checks.PORT_DEAD;
        it.armed = false;
        while (!it.queue.isEmpty()) {
            Message message = it.queue.remove(0);
            if (message.kind == Checks.KIND_SEND) {
                noticeIfLast(message.port);
            } else if (message.kind == Checks.KIND_RECEIVE) {
                worklist.add(message.port);
            }
        }
    }

    int requestNoSenders(int task, int name) {
        int refusal = withoutReceive(task, name);
        if (refusal != 0) {
            return refusal;
        }
        int port = names[task][name].port;
        if (ports.get(port).armed || carries(port, Checks.KIND_NOTICE, -1) > 0) {
            return Checks.ERR_STATE;
        }
        if (sends(port) == 0) {
            return append(port, Checks.KIND_NOTICE, -1);
        }
        ports.get(port).armed = true;
        return Checks.OK;
    }

    private int append(int port, int kind, int carried) {
        counter++;
        ports.get(port).queue.add(new Message(counter, kind, carried));
        return counter;
    }

    private int withoutReceive(int task, int name) {
        if (!isTask(task)) {
            return Checks.ERR_TASK;
        }
        int type = type(task, name);
        return type == Checks.RECEIVE || type == Checks.RECEIVE_SEND ? 0 : Checks.ERR_NAME;
    }

    private boolean isTask(int task) {
        return task >= 0 && task < names.length;
    }

    private int leastFree(int task) {
        for (int name = 1; name < names[task].length; name++) {
            if (names[task][name].type == 0) {
                return name;
            }
        }
        return 0;
    }

    private int carries(int port, int kind, int carried) {
        int count = 0;
        for (Message message : ports.get(port).queue) {
            count += message.kind == kind && message.port == carried ? 1 : 0;
        }
        return count;
    }

    private int rights(int port, int bit, int kind) {
        if (state(port) != Checks.PORT_HELD && state(port) != Checks.PORT_IN_TRANSIT) {
            return 0;
        }
        int count = 0;
        for (Name[] space : names) {
            for (int name = 1; name < space.length; name++) {
                count += space[name].port == port && (space[name].type & bit) != 0 ? 1 : 0;
            }
        }
        for (int holder = 0; holder < ports.size(); holder++) {
            count += carries(holder, kind, port);
        }
        return count;
    }

    private int sends(int port) {
        return rights(port, Checks.SEND, Checks.KIND_SEND);
    }

    private int state(int port) {
        return port >= 0 && port < ports.size() ? ports.get(port).state : Checks.PORT_NONE;
    }

    private int type(int task, int name) {
        return isTask(task) && name >= 1 && name < names[task].length ? names[task][name].type : 0;
    }

    private int queueAt(int port, int pos, int field) {
        boolean known = port >= 0 && port < ports.size();
        if (!known || pos < 0 || pos >= ports.get(port).queue.size() || field < 0 || field > 2) {
            return -1;
        }
        Message message = ports.get(port).queue.get(pos);
        return field == 0 ? message.id : field == 1 ? message.kind : message.port;
    }

    /** In the form of Checks.seen. */
    String seen() {
        StringBuilder text = new StringBuilder("names");
        for (int task = -1; task <= 4; task++) {
            for (int name = -1; name <= 9; name++) {
                int type = type(task, name);
                text.append(' ').append(type).append(':').append(type == 0 ? -1 : names[task][name].port);
            }
        }
        for (int port = -1; port <= 16; port++) {
            boolean known = port >= 0 && port < ports.size();
            int length = known ? ports.get(port).queue.size() : 0;
            text.append("; port ").append(port).append(' ').append(state(port));
            text.append(' ').append(sends(port));
            text.append(' ').append(rights(port, Checks.SEND_ONCE, Checks.KIND_SEND_ONCE));
            text.append(' ').append(known && ports.get(port).armed).append(' ').append(length);
            for (int pos = -1; pos <= length; pos++) {
                for (int field = -1; field <= 3; field++) {
                    text.append(field == -1 ? " " : ",").append(queueAt(port, pos, field));
                }
            }
        }
        text.append("; record -1");
        for (int field : record) {
            text.append(' ').append(field);
        }
        return text.append(" -1").toString();
    }
}
