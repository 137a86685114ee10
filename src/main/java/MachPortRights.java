/** Kernel ports, each task's rights to them, and queued messages that carry rights. */
public final class MachPortRights {
    public static final int TYPE_RECEIVE = 1;
    public static final int TYPE_SEND = 2;
    public static final int TYPE_SEND_ONCE = 4;
    public static final int TYPE_DEAD = 8;
    public static final int DISP_NONE = 0;
    public static final int MOVE_RECEIVE = 1;
    public static final int MOVE_SEND = 2;
    public static final int COPY_SEND = 3;
    public static final int MAKE_SEND = 4;
    public static final int MOVE_SEND_ONCE = 5;
    public static final int MAKE_SEND_ONCE = 6;
    public static final int KIND_NONE = 0;
    public static final int KIND_SEND = 1;
    public static final int KIND_SEND_ONCE = 2;
    public static final int KIND_RECEIVE = 3;
    public static final int KIND_NOTICE = 4;
    public static final int KIND_DEAD = 5;
    public static final int PORT_NONE = 0;
    public static final int PORT_HELD = 1;
    public static final int PORT_IN_TRANSIT = 2;
    public static final int PORT_DEAD = 3;
    public static final int OK = 0;
    public static final int ERR_TASK = -1;
    public static final int ERR_NAME = -2;
    public static final int ERR_ARG = -3;
    public static final int ERR_FULL = -4;
    public static final int ERR_EMPTY = -5;
    public static final int ERR_CYCLE = -6;
    public static final int ERR_STATE = -7;

    private static final int LEAST_TASKS = 2;
    private static final int LEAST_PORTS = 4;
    private static final int LEAST_NAMES = 4;
    private static final int LEAST_QUEUE = 2;
    private static final int MOST_TASKS = 4;
    private static final int MOST_PORTS = 16;
    private static final int MOST_NAMES = 8;
    private static final int MOST_QUEUE = 8;

    private static final int NAME_CELLS = MOST_TASKS * MOST_NAMES;
    // One place more than the ordinary messages need: the notice must always fit.
    private static final int QUEUE_ROOM = MOST_QUEUE + 1;
    private static final int MESSAGE_CELLS = MOST_PORTS * QUEUE_ROOM;

    private static final int NO_PORT = -1;
    private static final int NO_NAME = 0;
    private static final int NO_TYPE = 0;
    private static final int NO_FIELD = -1;

    private static final int FIELD_ID = 0;
    private static final int FIELD_KIND = 1;
    private static final int FIELD_CARRIED = 2;
    private static final int FIELD_NAME = 2;
    private static final int FIELD_PORT = 3;
    private static final int RECORD_FIELDS = 4;

    private final int taskLimit;
    private final int portLimit;
    private final int nameLimit;
    private final int queueLimit;

    private final int[] types = new int[NAME_CELLS];
    private final int[] denoted = new int[NAME_CELLS];

    private final int[] states = new int[MOST_PORTS];
    private final int[] sends = new int[MOST_PORTS];
    private final int[] sendOnces = new int[MOST_PORTS];
    private final boolean[] armed = new boolean[MOST_PORTS];
    private final int[] lengths = new int[MOST_PORTS];
    // Means something only while the port is in transit.
    private final int[] holders = new int[MOST_PORTS];

    private final int[] messageIds = new int[MESSAGE_CELLS];
    private final int[] messageKinds = new int[MESSAGE_CELLS];
    private final int[] messagePorts = new int[MESSAGE_CELLS];

    // A port's receive right is in one place at most, so no port is listed twice in one call.
    private final int[] dying = new int[MOST_PORTS];
    private int dyingCount = 0;

    private final int[] received = new int[RECORD_FIELDS];
    private int allocated = 0;
    private int lastId = 0;

    public MachPortRights(int tasks, int ports, int names, int queue) {
        taskLimit = clamp(tasks, LEAST_TASKS, MOST_TASKS);
        portLimit = clamp(ports, LEAST_PORTS, MOST_PORTS);
        nameLimit = clamp(names, LEAST_NAMES, MOST_NAMES);
        queueLimit = clamp(queue, LEAST_QUEUE, MOST_QUEUE);
        for (int cell = 0; cell < NAME_CELLS; cell++) {
            denoted[cell] = NO_PORT;
        }
        received[FIELD_PORT] = NO_PORT;
    }

    public int allocate(int task) {
        if (!isTask(task)) {
            return ERR_TASK;
        }
        if (allocated >= portLimit) {
            return ERR_FULL;
        }
        int name = leastFreeName(task);
        if (name == NO_NAME) {
            return ERR_FULL;
        }
        int port = allocated;
        allocated++;
        states[port] = PORT_HELD;
        int cell = cellOf(task, name);
        types[cell] = TYPE_RECEIVE;
        denoted[cell] = port;
        return name;
    }

    public int giveSend(int task, int name, int toTask) {
        int refusal = receiveRightRefusal(task, name);
        if (refusal != OK) {
            return refusal;
        }
        if (!isTask(toTask)) {
            return ERR_ARG;
        }
        int cell = cellOf(task, name);
        int port = denoted[cell];
        int target = copyoutName(toTask, KIND_SEND, port);
        if (target == NO_NAME) {
            return ERR_FULL;
        }
        sends[port]++;
        copyOut(toTask, target, KIND_SEND, port);
        return target;
    }

    public int send(int task, int dest, int carry, int disp) {
        int refusal = sendRefusal(task, dest, carry, disp);
        if (refusal != OK) {
            return refusal;
        }
        int destCell = cellOf(task, dest);
        int destPort = denoted[destCell];
        if (types[destCell] == TYPE_SEND_ONCE) {
            freeName(destCell);
            dropSendOnce(destPort);
        }
        int carried = NO_PORT;
        if (disp != DISP_NONE) {
            int carryCell = cellOf(task, carry);
            carried = denoted[carryCell];
            takeCarried(carryCell, carried, disp, destPort);
        }
        int kind = kindOf(disp);
        append(destPort, kind, carried);
        return lastId;
    }

    public int receive(int task, int name) {
        int refusal = receiveRightRefusal(task, name);
        if (refusal != OK) {
            return refusal;
        }
        int cell = cellOf(task, name);
        int port = denoted[cell];
        if (lengths[port] == 0) {
            return ERR_EMPTY;
        }
        int head = port * QUEUE_ROOM;
        int id = messageIds[head];
        int carried = messagePorts[head];
        int kind = kindReceived(messageKinds[head], carried);
        boolean carries = carriesRight(kind);
        int target = carries ? copyoutName(task, kind, carried) : NO_NAME;
        if (carries && target == NO_NAME) {
            return ERR_FULL;
        }
        removeHead(port);
        if (carries) {
            copyOut(task, target, kind, carried);
        }
        received[FIELD_ID] = id;
        received[FIELD_KIND] = kind;
        received[FIELD_NAME] = target;
        received[FIELD_PORT] = carried;
        return id;
    }

    public int deallocate(int task, int name) {
        if (!isTask(task)) {
            return ERR_TASK;
        }
        int type = nameType(task, name);
        if (type == NO_TYPE || type == TYPE_RECEIVE) {
            return ERR_NAME;
        }
        int cell = cellOf(task, name);
        int port = denoted[cell];
        if ((type & TYPE_SEND) != 0) {
            loseRight(cell, TYPE_SEND);
            dropSend(port);
        } else {
            freeName(cell);
        }
        if (type == TYPE_SEND_ONCE) {
            dropSendOnce(port);
        }
        return OK;
    }

    public int destroyReceive(int task, int name) {
        int refusal = receiveRightRefusal(task, name);
        if (refusal != OK) {
            return refusal;
        }
        int cell = cellOf(task, name);
        dying[0] = denoted[cell];
        dyingCount = 1;
        for (int next = 0; next < MOST_PORTS && next < dyingCount; next++) {
            int port = dying[next];
            killNames(port);
            states[port] = PORT_DEAD;
            sends[port] = 0;
            sendOnces[port] = 0;
            armed[port] = false;
            discardQueue(port);
        }
        return dyingCount;
    }

    public int requestNoSenders(int task, int name) {
        int refusal = receiveRightRefusal(task, name);
        if (refusal != OK) {
            return refusal;
        }
        int cell = cellOf(task, name);
        int port = denoted[cell];
        if (armed[port] || holdsNotice(port)) {
            return ERR_STATE;
        }
        if (sends[port] == 0) {
            append(port, KIND_NOTICE, NO_PORT);
            return lastId;
        }
        armed[port] = true;
        return OK;
    }

    public int nameType(int task, int name) {
        if (!isTask(task) || !isName(name)) {
            return NO_TYPE;
        }
        int cell = cellOf(task, name);
        return types[cell];
    }

    public int namePort(int task, int name) {
        if (!isTask(task) || !isName(name)) {
            return NO_PORT;
        }
        int cell = cellOf(task, name);
        return denoted[cell];
    }

    public int portState(int port) {
        return isPort(port) ? states[port] : PORT_NONE;
    }

    public int sendRights(int port) {
        return isPort(port) ? sends[port] : 0;
    }

    public int sendOnceRights(int port) {
        return isPort(port) ? sendOnces[port] : 0;
    }

    public int queueLength(int port) {
        return isPort(port) ? lengths[port] : 0;
    }

    public boolean isArmed(int port) {
        return isPort(port) && armed[port];
    }

    public int queueAt(int port, int pos, int field) {
        if (!isPort(port) || pos < 0 || pos >= lengths[port]) {
            return NO_FIELD;
        }
        int cell = port * QUEUE_ROOM + pos;
        switch (field) {
            case FIELD_ID:
                return messageIds[cell];
            case FIELD_KIND:
                return messageKinds[cell];
            case FIELD_CARRIED:
                return messagePorts[cell];
            default:
                return NO_FIELD;
        }
    }

    public int lastReceived(int field) {
        if (field < 0 || field >= RECORD_FIELDS) {
            return NO_FIELD;
        }
        return received[field];
    }

    private static int clamp(int value, int least, int greatest) {
        if (value < least) {
            return least;
        }
        return value > greatest ? greatest : value;
    }

    private boolean isTask(int task) {
        return task >= 0 && task < taskLimit;
    }

    private boolean isName(int name) {
        return name >= 1 && name <= nameLimit;
    }

    private boolean isPort(int port) {
        return port >= 0 && port < portLimit;
    }

    private boolean isLive(int port) {
        return states[port] == PORT_HELD || states[port] == PORT_IN_TRANSIT;
    }

    private static int cellOf(int task, int name) {
        return task * MOST_NAMES + name - 1;
    }

    private int receiveRightRefusal(int task, int name) {
        if (!isTask(task)) {
            return ERR_TASK;
        }
        int type = nameType(task, name);
        return (type & TYPE_RECEIVE) == 0 ? ERR_NAME : OK;
    }

    private int sendRefusal(int task, int dest, int carry, int disp) {
        if (!isTask(task)) {
            return ERR_TASK;
        }
        int destType = nameType(task, dest);
        if ((destType & (TYPE_SEND | TYPE_SEND_ONCE)) == 0) {
            return ERR_NAME;
        }
        if (disp < DISP_NONE || disp > MAKE_SEND_ONCE) {
            return ERR_ARG;
        }
        int carryType = nameType(task, carry);
        if (disp != DISP_NONE && (carryType & typeNeeded(disp)) == 0) {
            return ERR_NAME;
        }
        if ((disp == MOVE_SEND || disp == MOVE_SEND_ONCE) && carry == dest) {
            return ERR_ARG;
        }
        int destPort = namePort(task, dest);
        int carried = namePort(task, carry);
        if (disp == MOVE_RECEIVE && makesCycle(carried, destPort)) {
            return ERR_CYCLE;
        }
        return ordinaryCount(destPort) >= queueLimit ? ERR_FULL : OK;
    }

    /** The right that the carried name must have; disp is not DISP_NONE. */
    private static int typeNeeded(int disp) {
        switch (disp) {
            case MOVE_SEND:
            case COPY_SEND:
                return TYPE_SEND;
            case MOVE_SEND_ONCE:
                return TYPE_SEND_ONCE;
            default:
                return TYPE_RECEIVE;
        }
    }

    private static int kindOf(int disp) {
        switch (disp) {
            case MOVE_RECEIVE:
                return KIND_RECEIVE;
            case MOVE_SEND:
            case COPY_SEND:
            case MAKE_SEND:
                return KIND_SEND;
            case MOVE_SEND_ONCE:
            case MAKE_SEND_ONCE:
                return KIND_SEND_ONCE;
            default:
                return KIND_NONE;
        }
    }

    private boolean makesCycle(int carried, int destPort) {
        int port = destPort;
        // Refusing every cycle keeps the chain free of repeats: it has at most as many ports as there are.
        for (int step = 0; step < MOST_PORTS; step++) {
            if (port == carried) {
                return true;
            }
            if (states[port] != PORT_IN_TRANSIT) {
                return false;
            }
            port = holders[port];
        }
        return false;
    }

    private void takeCarried(int cell, int port, int disp, int destPort) {
        switch (disp) {
            case MOVE_RECEIVE:
                loseRight(cell, TYPE_RECEIVE);
                states[port] = PORT_IN_TRANSIT;
                holders[port] = destPort;
                break;
            case MOVE_SEND:
                loseRight(cell, TYPE_SEND);
                break;
            case COPY_SEND:
            case MAKE_SEND:
                sends[port]++;
                break;
            case MOVE_SEND_ONCE:
                freeName(cell);
                break;
            case MAKE_SEND_ONCE:
                sendOnces[port]++;
                break;
            default:
                break;
        }
    }

    private int leastFreeName(int task) {
        for (int name = 1; name <= nameLimit; name++) {
            int cell = cellOf(task, name);
            if (types[cell] == NO_TYPE) {
                return name;
            }
        }
        return NO_NAME;
    }

    private int nameWithReceiveOrSend(int task, int port) {
        for (int name = 1; name <= nameLimit; name++) {
            int cell = cellOf(task, name);
            if (denoted[cell] == port && (types[cell] & (TYPE_RECEIVE | TYPE_SEND)) != 0) {
                return name;
            }
        }
        return NO_NAME;
    }

    /** The name that the copyout will use; NO_NAME if it needs a new one and none is free. */
    private int copyoutName(int task, int kind, int port) {
        if (kind != KIND_SEND_ONCE) {
            int name = nameWithReceiveOrSend(task, port);
            if (name != NO_NAME) {
                return name;
            }
        }
        return leastFreeName(task);
    }

    /** Copies a right for a live port out into the name that copyoutName has found for it. */
    private void copyOut(int task, int name, int kind, int port) {
        int cell = cellOf(task, name);
        denoted[cell] = port;
        if (kind == KIND_SEND_ONCE) {
            types[cell] = TYPE_SEND_ONCE;
        } else if (kind == KIND_RECEIVE) {
            types[cell] |= TYPE_RECEIVE;
            states[port] = PORT_HELD;
        } else if ((types[cell] & TYPE_SEND) != 0) {
            // A name holds one send right at most, so the second one is given up.
            dropSend(port);
        } else {
            types[cell] |= TYPE_SEND;
        }
    }

    private void freeName(int cell) {
        types[cell] = NO_TYPE;
        denoted[cell] = NO_PORT;
    }

    private void loseRight(int cell, int type) {
        types[cell] &= ~type;
        if (types[cell] == NO_TYPE) {
            freeName(cell);
        }
    }

    private void dropSend(int port) {
        if (!isLive(port)) {
            return;
        }
        sends[port]--;
        if (sends[port] == 0 && armed[port]) {
            armed[port] = false;
            append(port, KIND_NOTICE, NO_PORT);
        }
    }

    private void dropSendOnce(int port) {
        if (isLive(port)) {
            sendOnces[port]--;
        }
    }

    private static boolean carriesRight(int kind) {
        return kind == KIND_SEND || kind == KIND_SEND_ONCE || kind == KIND_RECEIVE;
    }

    private int kindReceived(int kind, int carried) {
        if (carriesRight(kind) && !isLive(carried)) {
            return KIND_DEAD;
        }
        return kind;
    }

    private boolean holdsNotice(int port) {
        int first = port * QUEUE_ROOM;
        int count = lengths[port];
        for (int pos = 0; pos < count; pos++) {
            if (messageKinds[first + pos] == KIND_NOTICE) {
                return true;
            }
        }
        return false;
    }

    private int ordinaryCount(int port) {
        return holdsNotice(port) ? lengths[port] - 1 : lengths[port];
    }

    private void append(int port, int kind, int carried) {
        lastId++;
        int cell = port * QUEUE_ROOM + lengths[port];
        messageIds[cell] = lastId;
        messageKinds[cell] = kind;
        messagePorts[cell] = carried;
        lengths[port]++;
    }

    private void removeHead(int port) {
        int first = port * QUEUE_ROOM;
        int left = lengths[port] - 1;
        lengths[port] = left;
        for (int pos = 0; pos < left; pos++) {
            int cell = first + pos;
            messageIds[cell] = messageIds[cell + 1];
            messageKinds[cell] = messageKinds[cell + 1];
            messagePorts[cell] = messagePorts[cell + 1];
        }
    }

    private void killNames(int port) {
        for (int cell = 0; cell < NAME_CELLS; cell++) {
            if (denoted[cell] == port) {
                if (types[cell] == TYPE_RECEIVE) {
                    freeName(cell);
                } else {
                    types[cell] = TYPE_DEAD;
                }
            }
        }
    }

    private void discardQueue(int port) {
        int first = port * QUEUE_ROOM;
        int count = lengths[port];
        lengths[port] = 0;
        for (int pos = 0; pos < count; pos++) {
            int carried = messagePorts[first + pos];
            int kind = messageKinds[first + pos];
            if (kind == KIND_SEND) {
                dropSend(carried);
            } else if (kind == KIND_SEND_ONCE) {
                dropSendOnce(carried);
            } else if (kind == KIND_RECEIVE) {
                dying[dyingCount] = carried;
                dyingCount++;
            }
        }
    }
}
