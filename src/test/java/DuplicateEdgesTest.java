import java.util.Map;

/** Promise 7, duplicate: a test for each sentence that names a boundary case. */
public final class DuplicateEdgesTest {
    public static void main(String[] args) {
        Check.sentence("If sf is not 0..2 [..] it answers false and changes nothing.", DuplicateEdgesTest::badSubflow);
        Check.sentence("or the channel is empty [..] it answers false and changes nothing.",
            DuplicateEdgesTest::emptyChannel);
        Check.sentence("or it holds CHANNEL_CAP segments, it answers false and changes nothing.",
            DuplicateEdgesTest::fullChannel);
        Check.sentence("Otherwise it appends a copy of the head at the tail and answers true. (from one to eight)",
            DuplicateEdgesTest::fromOneToEight);
        Check.sentence("Otherwise it appends a copy of the head at the tail and answers true. (a failed subflow)",
            DuplicateEdgesTest::failedSubflow);
        Check.sentence("The counter sent is not changed, and nothing else changes.",
            DuplicateEdgesTest::changesNothingElse);
        Check.end();
    }

    private static void badSubflow() {
        MultipathStream x = Make.manySided();
        for (int sf : Make.NO_SUBFLOWS) {
            Refused.duplicate(x, sf);
        }
        Check.due("duplicate(0)", x.duplicate(0), true);
        Check.due("duplicate(2)", x.duplicate(2), true);
    }

    private static void emptyChannel() {
        for (int sf = 0; sf < 3; sf++) {
            MultipathStream x = Make.written(12, 1, 1, 1);
            Make.send(x, (sf + 1) % 3, 4);
            Refused.duplicate(x, sf);
            Make.send(x, sf, 4);
            x.deliver(sf);
            Refused.duplicate(x, sf);
            Make.send(x, sf, 4);
            x.drop(sf);
            Refused.duplicate(x, sf);
            Make.fail(x, sf);
            Refused.duplicate(x, sf);
        }
    }

    private static void fullChannel() {
        for (int sf = 0; sf < 3; sf++) {
            MultipathStream x = Make.written(12, 1, 1, 1);
            Make.send(x, sf, 4, 4);
            Make.duplicate(x, sf, 6);
            Refused.duplicate(x, sf);
            Make.fail(x, sf);
            Refused.duplicate(x, sf);
            x.drop(sf);
            Check.due("duplicate with seven", x.duplicate(sf), true);
            Refused.duplicate(x, sf);
        }
    }

    private static void fromOneToEight() {
        MultipathStream x = Make.written(5, 1, 1, 1);
        Make.send(x, 1, 4);
        Map<String, String> before = Snapshot.of(x);
        Check.due("duplicate(1) of the only one", x.duplicate(1), true);
        Check.changed("duplicate(1)", before, x, "sf1.CHANNEL=2", "sf1.segments=(0 0 4)(0 0 4)");
        x.drop(1);
        Make.send(x, 1, 1);
        for (int size = 3; size <= 8; size++) {
            before = Snapshot.of(x);
            Check.due("duplicate(1)", x.duplicate(1), true);
            Check.changed("duplicate(1)", before, x, "sf1.CHANNEL=" + size,
                "sf1.segments=(0 0 4)(1 4 1)" + "(0 0 4)".repeat(size - 2));
        }
    }

    private static void failedSubflow() {
        MultipathStream x = Make.written(8, 1, 1, 1);
        Make.send(x, 0, 4, 4);
        Make.fail(x, 0);
        Map<String, String> before = Snapshot.of(x);
        Check.due("duplicate(0)", x.duplicate(0), true);
        Check.changed("duplicate(0)", before, x, "sf0.CHANNEL=3", "sf0.segments=(0 0 4)(1 4 4)(0 0 4)");
    }

    private static void changesNothingElse() {
        String[] after = {"(1 4 4)(1 4 4)", "(1 12 4)(1 12 4)", "(0 16 4)(0 16 4)(0 16 4)"};
        for (int sf = 0; sf < 3; sf++) {
            MultipathStream x = Make.manySided();
            Map<String, String> before = Snapshot.of(x);
            Check.due("duplicate(" + sf + ")", x.duplicate(sf), true);
            Check.changed("duplicate(" + sf + ")", before, x, "sf" + sf + ".CHANNEL=" + (sf == 2 ? 3 : 2),
                "sf" + sf + ".segments=" + after[sf]);
        }
    }
}
