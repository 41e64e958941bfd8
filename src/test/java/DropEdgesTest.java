import java.util.Map;

/** Promise 6, drop: a test for each sentence that names a boundary case. */
public final class DropEdgesTest {
    public static void main(String[] args) {
        Check.sentence("If sf is not 0..2 [..] it answers false and changes nothing.", DropEdgesTest::badSubflow);
        Check.sentence("or the channel is empty, it answers false and changes nothing.", DropEdgesTest::emptyChannel);
        Check.sentence("Otherwise it removes the head and answers true. (the only one)", DropEdgesTest::onlyOne);
        Check.sentence("Otherwise it removes the head and answers true. (of a full channel)",
            DropEdgesTest::fullChannel);
        Check.sentence("Otherwise it removes the head and answers true. (of a failed subflow)",
            DropEdgesTest::failedSubflow);
        Check.sentence("no counter, other subflow value, record, pending flag or held offset changes",
            DropEdgesTest::changesNothingElse);
        Check.end();
    }

    private static void badSubflow() {
        MultipathStream x = Make.manySided();
        for (int sf : Make.NO_SUBFLOWS) {
            Refused.drop(x, sf);
        }
        Check.due("drop(0)", x.drop(0), true);
        Check.due("drop(2)", x.drop(2), true);
    }

    private static void emptyChannel() {
        for (int sf = 0; sf < 3; sf++) {
            MultipathStream x = Make.written(12, 1, 1, 1);
            Make.send(x, (sf + 1) % 3, 4);
            Refused.drop(x, sf);
            Make.send(x, sf, 4);
            x.drop(sf);
            Refused.drop(x, sf);
            x.timeout(sf);
            Make.send(x, sf, 4);
            x.deliver(sf);
            Refused.drop(x, sf);
            Make.fail(x, sf);
            Refused.drop(x, sf);
        }
    }

    private static void onlyOne() {
        MultipathStream x = Make.written(4, 1, 1, 1);
        Make.send(x, 1, 4);
        Map<String, String> before = Snapshot.of(x);
        Check.due("drop(1)", x.drop(1), true);
        Check.changed("drop(1)", before, x, "sf1.CHANNEL=0", "sf1.segments=");
    }

    private static void fullChannel() {
        MultipathStream x = Make.written(8, 1, 1, 1);
        Make.send(x, 1, 4);
        Make.duplicate(x, 1, 6);
        Make.send(x, 1, 4);
        for (int left = 7; left >= 1; left--) {
            Map<String, String> before = Snapshot.of(x);
            Check.due("drop(1)", x.drop(1), true);
            Check.changed("drop(1)", before, x, "sf1.CHANNEL=" + left,
                "sf1.segments=" + "(0 0 4)".repeat(left - 1) + "(1 4 4)");
        }
        Make.duplicate(x, 1, 7);
        Check.due("the channel takes eight again", x.subflow(1, MultipathStream.F_CHANNEL), 8);
    }

    private static void failedSubflow() {
        MultipathStream x = Make.written(8, 1, 1, 1);
        Make.send(x, 2, 4, 4);
        Make.fail(x, 2);
        Map<String, String> before = Snapshot.of(x);
        Check.due("drop(2)", x.drop(2), true);
        Check.changed("drop(2)", before, x, "sf2.CHANNEL=1", "sf2.segments=(1 4 4)");
    }

    private static void changesNothingElse() {
        String[] after = {"", "", "(0 16 4)"};
        for (int sf = 0; sf < 3; sf++) {
            MultipathStream x = Make.manySided();
            Map<String, String> before = Snapshot.of(x);
            Check.due("drop(" + sf + ")", x.drop(sf), true);
            Check.changed("drop(" + sf + ")", before, x, "sf" + sf + ".CHANNEL=" + (sf == 2 ? 1 : 0),
                "sf" + sf + ".segments=" + after[sf]);
        }
    }
}
