import java.util.Map;

/** Promise 4: sendAll. */
public final class SendAllTest {
    public static void main(String[] args) {
        lowestRttFirst();
        tiesGoToTheLowestIndex();
        fillsEveryWindow();
        passesOverWhatIsNotEligible();
        retransmitsToo();
        changesNothingWhenNothingIsSent();
        Check.end();
    }

    private static void lowestRttFirst() {
        MultipathStream x = Make.written(20, 4, 2, 3);
        Map<String, String> before = Snapshot.of(x);
        Check.due("sendAll()", x.sendAll(), 5);
        Check.changed("sendAll()", before, x, "PENDING=0", "SENT=5", "pending offsets=",
            "sf1.SND_NXT=2", "sf1.SND_HIGH=2", "sf1.CHANNEL=2", "sf1.segments=(0 0 4)(1 4 4)",
            "sf1.records=(0 0 4)(1 4 4)",
            "sf2.SND_NXT=2", "sf2.SND_HIGH=2", "sf2.CHANNEL=2", "sf2.segments=(0 8 4)(1 12 4)",
            "sf2.records=(0 8 4)(1 12 4)",
            "sf0.SND_NXT=1", "sf0.SND_HIGH=1", "sf0.CHANNEL=1", "sf0.segments=(0 16 4)", "sf0.records=(0 16 4)");
    }

    private static void tiesGoToTheLowestIndex() {
        MultipathStream x = Make.written(9, 3, 1, 1);
        Check.due("sendAll()", x.sendAll(), 3);
        Check.due("in channel 0", x.subflow(0, MultipathStream.F_CHANNEL), 0);
        Check.due("in channel 1", x.subflow(1, MultipathStream.F_CHANNEL), 2);
        Check.due("in channel 2", x.subflow(2, MultipathStream.F_CHANNEL), 1);
        MultipathStream y = Make.written(4, 2, 2, 2);
        Check.due("sendAll()", y.sendAll(), 1);
        Check.due("in channel 0", y.subflow(0, MultipathStream.F_CHANNEL), 1);
    }

    private static void fillsEveryWindow() {
        MultipathStream x = Make.written(32, 1, 1, 1);
        Check.due("sendAll()", x.sendAll(), 6);
        Check.due("pending", x.conn(MultipathStream.C_PENDING), 8);
        Refused.sendAll(x);
    }

    private static void passesOverWhatIsNotEligible() {
        MultipathStream x = Make.written(4, 1, 2, 3);
        x.send(0);
        Make.duplicate(x, 0, 7);
        Make.write(x, 4);
        x.fail(1);
        Check.due("sendAll()", x.sendAll(), 1);
        Check.due("a full channel and a failed subflow are passed over",
            x.segment(2, 0, MultipathStream.G_DSN), 4);
        Check.due("the full channel", x.subflow(0, MultipathStream.F_CHANNEL), 8);
        Check.due("the failed one", x.subflow(1, MultipathStream.F_CHANNEL), 0);
    }

    private static void retransmitsToo() {
        MultipathStream x = Make.written(12, 2, 1, 3);
        x.send(0);
        x.send(0);
        x.send(1);
        x.timeout(0);
        x.drop(0);
        x.drop(0);
        Make.write(x, 2);
        Check.due("sendAll()", x.sendAll(), 2);
        Check.due("the new segment takes the fastest", x.segment(1, 1, MultipathStream.G_DSN), 12);
        Check.due("the record goes out again on its own subflow", x.segment(0, 0, MultipathStream.G_DSN), 0);
        Check.due("the halved window is full", x.subflow(0, MultipathStream.F_CHANNEL), 1);
        Check.due("sent", x.conn(MultipathStream.C_SENT), 5);
    }

    private static void changesNothingWhenNothingIsSent() {
        MultipathStream x = new MultipathStream(8, 1, 1, 1);
        Refused.sendAll(x);
        Make.write(x, 8);
        x.fail(0);
        x.fail(1);
        x.fail(2);
        Refused.sendAll(x);
    }
}
