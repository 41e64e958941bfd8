import java.lang.reflect.Constructor;
import java.lang.reflect.Field;
import java.lang.reflect.Method;
import java.lang.reflect.Modifier;
import java.util.Set;
import java.util.TreeSet;

/** "The public face": every member of the document, and no other that is not private. */
public final class PublicFaceTest {
    private static final String[] CONSTANTS = {
        "SUBFLOWS=3", "MAX_STREAM=256", "MSS=4", "CHANNEL_CAP=8", "MAX_OUTSTANDING=8",
        "CWND_INIT=512", "CWND_MAX=4096", "CWND_MIN=256", "S_ESTABLISHED=1", "S_FAILED=2",
        "R_BAD_SUBFLOW=-1", "R_FAILED=-2", "R_WINDOW=-3", "R_CHANNEL_FULL=-4", "R_NOTHING=-5", "R_EMPTY=-6",
        "F_STATE=0", "F_CWND=1", "F_RTT=2", "F_SND_UNA=3", "F_SND_NXT=4", "F_SND_HIGH=5", "F_RCV_NXT=6",
        "F_CHANNEL=7", "G_SSN=0", "G_DSN=1", "G_LEN=2",
        "C_WRITTEN=0", "C_DATA_UNA=1", "C_DELIVERED=2", "C_PENDING=3", "C_HELD=4", "C_SENT=5",
        "C_DISCARDED=6", "C_BUF_CAP=7", "C_ESTABLISHED=8",
        "O_WRITTEN=0", "O_DELIVERED=1", "O_PENDING=2", "O_HELD=3"
    };
    private static final String[] METHODS = {
        "public boolean MultipathStream.write(int)",
        "public int MultipathStream.send(int)",
        "public int MultipathStream.sendAll()",
        "public int MultipathStream.deliver(int)",
        "public boolean MultipathStream.drop(int)",
        "public boolean MultipathStream.duplicate(int)",
        "public boolean MultipathStream.timeout(int)",
        "public boolean MultipathStream.fail(int)",
        "public int MultipathStream.subflow(int,int)",
        "public int MultipathStream.segment(int,int,int)",
        "public int MultipathStream.record(int,int,int)",
        "public int MultipathStream.conn(int)",
        "public int MultipathStream.offset(int,int)"
    };

    public static void main(String[] args) throws IllegalAccessException {
        Set<String> constants = new TreeSet<>();
        for (Field field : MultipathStream.class.getDeclaredFields()) {
            if (!Modifier.isPrivate(field.getModifiers())) {
                Check.due(field.getName(), Modifier.toString(field.getModifiers()), "public static final");
                Check.due("type of " + field.getName(), field.getType(), int.class);
                constants.add(field.getName() + "=" + field.getInt(null));
            }
        }
        Check.due("the constants", constants, new TreeSet<>(Set.of(CONSTANTS)));

        Set<String> methods = new TreeSet<>();
        for (Method method : MultipathStream.class.getDeclaredMethods()) {
            if (!Modifier.isPrivate(method.getModifiers())) {
                methods.add(method.toString());
            }
        }
        Check.due("the methods", methods, new TreeSet<>(Set.of(METHODS)));

        Set<String> constructors = new TreeSet<>();
        for (Constructor<?> constructor : MultipathStream.class.getDeclaredConstructors()) {
            constructors.add(constructor.toString());
        }
        Check.due("the constructors", constructors, Set.of("public MultipathStream(int,int,int,int)"));
        Check.due("the class", Modifier.toString(MultipathStream.class.getModifiers()), "public final");
        Check.due("nested classes", MultipathStream.class.getDeclaredClasses().length, 0);
        Check.end();
    }
}
