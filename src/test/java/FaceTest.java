import java.lang.reflect.Constructor;
import java.lang.reflect.Field;
import java.lang.reflect.Member;
import java.lang.reflect.Method;
import java.lang.reflect.Modifier;
import java.util.TreeSet;

/** The public face: the document's constants, constructor and methods, and every other member private. */
final class FaceTest extends Checks {
    private static final String[] FACE = {
        "TYPE_RECEIVE = 1", "TYPE_SEND = 2", "TYPE_SEND_ONCE = 4", "TYPE_DEAD = 8",
        "DISP_NONE = 0", "MOVE_RECEIVE = 1", "MOVE_SEND = 2", "COPY_SEND = 3", "MAKE_SEND = 4",
        "MOVE_SEND_ONCE = 5", "MAKE_SEND_ONCE = 6",
        "KIND_NONE = 0", "KIND_SEND = 1", "KIND_SEND_ONCE = 2", "KIND_RECEIVE = 3", "KIND_NOTICE = 4", "KIND_DEAD = 5",
        "PORT_NONE = 0", "PORT_HELD = 1", "PORT_IN_TRANSIT = 2", "PORT_DEAD = 3",
        "OK = 0", "ERR_TASK = -1", "ERR_NAME = -2", "ERR_ARG = -3", "ERR_FULL = -4", "ERR_EMPTY = -5",
        "ERR_CYCLE = -6", "ERR_STATE = -7",
        "public MachPortRights(int,int,int,int)",
        "public int MachPortRights.allocate(int)",
        "public int MachPortRights.giveSend(int,int,int)",
        "public int MachPortRights.send(int,int,int,int)",
        "public int MachPortRights.receive(int,int)",
        "public int MachPortRights.deallocate(int,int)",
        "public int MachPortRights.destroyReceive(int,int)",
        "public int MachPortRights.requestNoSenders(int,int)",
        "public int MachPortRights.nameType(int,int)",
        "public int MachPortRights.namePort(int,int)",
        "public int MachPortRights.portState(int)",
        "public int MachPortRights.sendRights(int)",
        "public int MachPortRights.sendOnceRights(int)",
        "public int MachPortRights.queueLength(int)",
        "public boolean MachPortRights.isArmed(int)",
        "public int MachPortRights.queueAt(int,int,int)",
        "public int MachPortRights.lastReceived(int)",
    };

    public static void main(String[] args) throws IllegalAccessException {
        due("the class", Modifier.toString(MachPortRights.class.getModifiers()), "public final");
        due("nested classes", MachPortRights.class.getDeclaredClasses().length, 0);
        TreeSet<String> want = new TreeSet<>();
        for (String member : FACE) {
            want.add(member);
        }
        due("the members that are not private", openMembers(), want);
        noPrivateMethodSharesAPublicName();
        staticFieldsAreConstants();
        end();
    }

    private static TreeSet<String> openMembers() throws IllegalAccessException {
        TreeSet<String> open = new TreeSet<>();
        for (Field field : MachPortRights.class.getDeclaredFields()) {
            if (!isPrivate(field)) {
                boolean constant = Modifier.toString(field.getModifiers()).equals("public static final")
                    && field.getType() == int.class;
                open.add(constant ? field.getName() + " = " + field.getInt(null) : field.toString());
            }
        }
        for (Constructor<?> constructor : MachPortRights.class.getDeclaredConstructors()) {
            open.add(constructor.toString());
        }
        for (Method method : MachPortRights.class.getDeclaredMethods()) {
            if (!isPrivate(method)) {
                open.add(method.toString());
            }
        }
        return open;
    }

    private static void noPrivateMethodSharesAPublicName() {
        for (Method method : MachPortRights.class.getDeclaredMethods()) {
            for (Method other : MachPortRights.class.getDeclaredMethods()) {
                boolean shared = isPrivate(method) && !isPrivate(other) && method.getName().equals(other.getName());
                due("a private " + method.getName() + " beside a public one", shared, false);
            }
        }
    }

    private static void staticFieldsAreConstants() {
        for (Field field : MachPortRights.class.getDeclaredFields()) {
            if (Modifier.isStatic(field.getModifiers())) {
                due(field.getName() + " is final", Modifier.isFinal(field.getModifiers()), true);
                boolean whole = field.getType() == int.class || field.getType() == long.class;
                due(field.getName() + " is int or long", whole, true);
            }
        }
    }

    private static boolean isPrivate(Member member) {
        return Modifier.isPrivate(member.getModifiers());
    }
}
