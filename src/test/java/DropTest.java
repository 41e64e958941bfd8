import java.util.Map;

/** Promise 6: drop. */
public final class DropTest {
    public static void main(String[] args) {
        MultipathStream x = Make.written(7, 1, 2, 3);
        x.send(0);
        x.send(0);
        x.send(1);
        for (int sf : Make.NO_SUBFLOWS) {
            Refused.drop(x, sf);
        }
        Refused.drop(x, 2);

        Map<String, String> before = Snapshot.of(x);
        Check.due("drop(0)", x.drop(0), true);
        Check.changed("drop(0)", before, x, "sf0.CHANNEL=1", "sf0.segments=(1 4 3)");
        before = Snapshot.of(x);
        Check.due("drop(0) of the last", x.drop(0), true);
        Check.changed("drop(0) of the last", before, x, "sf0.CHANNEL=0", "sf0.segments=");
        Refused.drop(x, 0);

        onAFailedSubflow();
        fromAFullChannel();
        Check.end();
    }

    private static void onAFailedSubflow() {
        MultipathStream x = Make.written(4, 1, 1, 1);
        x.send(2);
        x.fail(2);
        Map<String, String> before = Snapshot.of(x);
        Check.due("drop(2) when failed", x.drop(2), true);
        Check.changed("drop(2) when failed", before, x, "sf2.CHANNEL=0", "sf2.segments=");
    }

    private static void fromAFullChannel() {
        MultipathStream x = Make.written(12, 1, 1, 1);
        x.send(1);
        x.send(1);
        x.send(2);
        Make.duplicate(x, 1, 6);
        Map<String, String> before = Snapshot.of(x);
        Check.due("drop(1) when full", x.drop(1), true);
        Check.changed("drop(1) when full", before, x, "sf1.CHANNEL=7",
            "sf1.segments=(1 4 4)(0 0 4)(0 0 4)(0 0 4)(0 0 4)(0 0 4)(0 0 4)");
    }
}
