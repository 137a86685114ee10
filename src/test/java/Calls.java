/** A call as a row of numbers: the method's place in this list, then its arguments. */
final class Calls {
    static final int ALLOCATE = 0;
    static final int GIVE_SEND = 1;
    static final int SEND = 2;
    static final int RECEIVE = 3;
    static final int DEALLOCATE = 4;
    static final int DESTROY_RECEIVE = 5;
    static final int REQUEST_NO_SENDERS = 6;

    private static final String[] METHODS = {
        "allocate", "giveSend", "send", "receive", "deallocate", "destroyReceive", "requestNoSenders"};
    private static final int[] ARGUMENTS = {1, 3, 4, 2, 2, 2, 2};

    private Calls() {
    }

    static int arguments(int method) {
        return ARGUMENTS[method];
    }

    static String textOf(int[] call) {
        StringBuilder text = new StringBuilder(METHODS[call[0]]).append('(').append(call[1]);
        for (int at = 2; at <= ARGUMENTS[call[0]]; at++) {
            text.append(", ").append(call[at]);
        }
        return text.append(')').toString();
    }

    static int made(MachPortRights x, int[] call) {
        switch (call[0]) {
            case ALLOCATE: return x.allocate(call[1]);
            case GIVE_SEND: return x.giveSend(call[1], call[2], call[3]);
            case SEND: return x.send(call[1], call[2], call[3], call[4]);
            case RECEIVE: return x.receive(call[1], call[2]);
            case DEALLOCATE: return x.deallocate(call[1], call[2]);
            case DESTROY_RECEIVE: return x.destroyReceive(call[1], call[2]);
            default: return x.requestNoSenders(call[1], call[2]);
        }
    }

    static int made(Model x, int[] call) {
        switch (call[0]) {
            case ALLOCATE: return x.allocate(call[1]);
            case GIVE_SEND: return x.giveSend(call[1], call[2], call[3]);
            case SEND: return x.send(call[1], call[2], call[3], call[4]);
            case RECEIVE: return x.receive(call[1], call[2]);
            case DEALLOCATE: return x.deallocate(call[1], call[2]);
            case DESTROY_RECEIVE: return x.destroyReceive(call[1], call[2]);
            default: return x.requestNoSenders(call[1], call[2]);
        }
    }
}
