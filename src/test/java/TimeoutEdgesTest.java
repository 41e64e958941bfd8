import java.util.Map;

/** Promise 8, timeout: a test for each sentence that names a boundary case. */
public final class TimeoutEdgesTest {
    public static void main(String[] args) {
        Check.sentence("It answers false, changing nothing [..] sf is not 0..2", TimeoutEdgesTest::badSubflow);
        Check.sentence("It answers false, changing nothing [..] the subflow is failed", TimeoutEdgesTest::failed);
        Check.sentence("It answers false, changing nothing [..] sndHigh == sndUna", TimeoutEdgesTest::nothingOutstanding);
        Check.sentence("sndHigh == sndUna (and not with one outstanding)", TimeoutEdgesTest::oneOutstanding);
        Check.sentence("cwnd becomes cwnd / 2 (rounded down)", TimeoutEdgesTest::halves);
        Check.sentence("raised to CWND_MIN if below it", TimeoutEdgesTest::raisedToTheMinimum);
        Check.sentence("sndNxt becomes sndUna, so later sends go back over the kept records",
            TimeoutEdgesTest::goesBackOverAll);
        Check.sentence("sndNxt becomes sndUna (that it is already)", TimeoutEdgesTest::againAtOnce);
        Check.sentence("the channel is unchanged, and the call answers true", TimeoutEdgesTest::emptyAndFullChannel);
        Check.sentence("all connection values and the other subflows stay as they are",
            TimeoutEdgesTest::changesNothingElse);
        Check.end();
    }

    private static void badSubflow() {
        MultipathStream x = Make.written(32, 1, 1, 1);
        x.sendAll();
        for (int sf : Make.NO_SUBFLOWS) {
            Refused.timeout(x, sf);
        }
        Check.due("timeout(0)", x.timeout(0), true);
        Check.due("timeout(2)", x.timeout(2), true);
    }

    private static void failed() {
        for (int sf = 0; sf < 3; sf++) {
            MultipathStream x = Make.written(32, 1, 1, 1);
            x.sendAll();
            Make.fail(x, sf);
            Check.due("sndNxt", x.subflow(sf, MultipathStream.F_SND_NXT), 2);
            Refused.timeout(x, sf);
            Check.due("another", x.timeout((sf + 1) % 3), true);
        }
        MultipathStream y = new MultipathStream(8, 1, 1, 1);
        Make.fail(y, 0);
        Refused.timeout(y, 0);
    }

    private static void nothingOutstanding() {
        for (int sf = 0; sf < 3; sf++) {
            MultipathStream x = new MultipathStream(8, 1, 1, 1);
            Refused.timeout(x, sf);
            Make.write(x, 8);
            Refused.timeout(x, sf);
            Make.send(x, (sf + 1) % 3, 4);
            Refused.timeout(x, sf);
            Make.send(x, sf, 4);
            Make.duplicate(x, sf, 1);
            x.deliver(sf);
            // A copy is still on its way, but nothing is unacknowledged.
            Check.due("channel", x.subflow(sf, MultipathStream.F_CHANNEL), 1);
            Refused.timeout(x, sf);
        }
        Refused.timeout(Make.wholeStream(), 0);
    }

    private static void oneOutstanding() {
        MultipathStream x = Make.written(5, 1, 1, 1);
        Make.send(x, 0, 4, 1);
        x.deliver(0);
        Map<String, String> before = Snapshot.of(x);
        Check.due("timeout(0)", x.timeout(0), true);
        Check.changed("timeout(0)", before, x, "sf0.CWND=263", "sf0.SND_NXT=1");
    }

    private static void becomes(String path, int before, int after) {
        MultipathStream x = Make.steered(path);
        Check.due("cwnd", x.subflow(1, MultipathStream.F_CWND), before);
        if (x.subflow(1, MultipathStream.F_SND_HIGH) == x.subflow(1, MultipathStream.F_SND_UNA)) {
            Make.write(x, 1);
            Make.send(x, 1, 1);
        }
        Check.due("timeout(1)", x.timeout(1), true);
        Check.due("half of " + before, x.subflow(1, MultipathStream.F_CWND), after);
    }

    private static void halves() {
        becomes("a", 640, 320);
        becomes("aaaataaaaaa", 1023, 511);
        becomes("ataaaaataaaaaa", 1024, 512);
        becomes("aaaaaaaaaaatataaa", 767, 383);
        becomes("aaaaaaaat" + "a".repeat(127), 4095, 2047);
        becomes("a".repeat(128), 4096, 2048);
    }

    private static void raisedToTheMinimum() {
        becomes("", 512, 256);
        becomes("aatata", 513, 256);
        becomes("aaaataaaaaat", 511, 256);
        becomes("aaatatat", 257, 256);
        becomes("t", 256, 256);
    }

    private static void goesBackOverAll() {
        MultipathStream x = Make.steered("a".repeat(128));
        Make.write(x, 32);
        Make.send(x, 1, 4, 4, 4, 4, 4, 4, 4, 4);
        for (int k = 0; k < 8; k++) {
            x.drop(1);
        }
        Map<String, String> before = Snapshot.of(x);
        Check.due("timeout(1)", x.timeout(1), true);
        Check.changed("timeout(1)", before, x, "sf1.CWND=2048", "sf1.SND_NXT=128");
        Make.send(x, 1, 4, 4, 4, 4, 4, 4, 4, 4);
        StringBuilder again = new StringBuilder();
        for (int k = 0; k < 8; k++) {
            again.append(Snapshot.mapping(128 + k, 128 + 4 * k, 4));
        }
        Check.due("all eight again", Snapshot.of(x).get("sf1.segments"), again.toString());
        Check.due("sndHigh", x.subflow(1, MultipathStream.F_SND_HIGH), 136);
    }

    private static void againAtOnce() {
        MultipathStream x = Make.steered("aaat");
        Map<String, String> before = Snapshot.of(x);
        Check.due("sndNxt is sndUna", x.subflow(1, MultipathStream.F_SND_NXT), 3);
        Check.due("timeout(1) again", x.timeout(1), true);
        Check.changed("timeout(1) again", before, x, "sf1.CWND=256");
        before = Snapshot.of(x);
        Check.due("timeout(1) at CWND_MIN", x.timeout(1), true);
        Check.changed("timeout(1) at CWND_MIN", before, x);
    }

    private static void emptyAndFullChannel() {
        MultipathStream empty = Make.written(4, 1, 1, 1);
        Make.send(empty, 0, 4);
        empty.drop(0);
        Map<String, String> before = Snapshot.of(empty);
        Check.due("timeout(0)", empty.timeout(0), true);
        Check.changed("timeout(0)", before, empty, "sf0.CWND=256", "sf0.SND_NXT=0");
        MultipathStream full = Make.written(8, 1, 1, 1);
        Make.send(full, 0, 4, 4);
        Make.fillChannel(full, 0);
        before = Snapshot.of(full);
        Check.due("timeout(0)", full.timeout(0), true);
        Check.changed("timeout(0)", before, full, "sf0.CWND=256", "sf0.SND_NXT=0");
    }

    private static void changesNothingElse() {
        MultipathStream x = Make.manySided();
        Map<String, String> before = Snapshot.of(x);
        Check.due("timeout(1)", x.timeout(1), true);
        Check.changed("timeout(1)", before, x, "sf1.CWND=274", "sf1.SND_NXT=1");
    }
}
