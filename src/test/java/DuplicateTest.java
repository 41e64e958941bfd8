import java.util.Map;

/** Promise 7: duplicate. */
public final class DuplicateTest {
    public static void main(String[] args) {
        MultipathStream x = Make.written(7, 1, 2, 3);
        x.send(0);
        x.send(0);
        for (int sf : Make.NO_SUBFLOWS) {
            Refused.duplicate(x, sf);
        }
        Refused.duplicate(x, 2);

        Map<String, String> before = Snapshot.of(x);
        Check.due("duplicate(0)", x.duplicate(0), true);
        Check.changed("duplicate(0)", before, x, "sf0.CHANNEL=3", "sf0.segments=(0 0 4)(1 4 3)(0 0 4)");
        Make.duplicate(x, 0, 4);
        before = Snapshot.of(x);
        Check.due("duplicate(0) of seven", x.duplicate(0), true);
        Check.changed("duplicate(0) of seven", before, x, "sf0.CHANNEL=8",
            "sf0.segments=(0 0 4)(1 4 3)(0 0 4)(0 0 4)(0 0 4)(0 0 4)(0 0 4)(0 0 4)");
        Refused.duplicate(x, 0);

        onAFailedSubflow();
        Check.end();
    }

    private static void onAFailedSubflow() {
        MultipathStream x = Make.written(4, 1, 1, 1);
        x.send(1);
        x.fail(1);
        Map<String, String> before = Snapshot.of(x);
        Check.due("duplicate(1) when failed", x.duplicate(1), true);
        Check.changed("duplicate(1) when failed", before, x, "sf1.CHANNEL=2", "sf1.segments=(0 0 4)(0 0 4)");
    }
}
