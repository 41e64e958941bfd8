import java.util.Map;

/** Promise 9: fail. */
public final class FailTest {
    public static void main(String[] args) {
        refuses();
        reinjectsUnacknowledgedMappings();
        leavesOutWhatIsDelivered();
        reinjectsWhatIsOnlyHeld();
        reinjectsBehindATimeout();
        takesTheRecordsAfterManySegments();
        lastSubflowMayFail();
        Check.end();
    }

    private static void refuses() {
        MultipathStream x = Make.written(8, 1, 1, 1);
        x.send(0);
        x.fail(0);
        for (int sf : Make.NO_SUBFLOWS) {
            Refused.fail(x, sf);
        }
        Refused.fail(x, 0);
        Check.due("send(1) takes the reinjected bytes", x.send(1), 4);
        Refused.fail(x, 0);
    }

    private static void reinjectsUnacknowledgedMappings() {
        MultipathStream x = Make.written(14, 1, 2, 3);
        x.send(0);
        x.send(0);
        x.send(1);
        Check.due("deliver(0)", x.deliver(0), 4);
        Map<String, String> before = Snapshot.of(x);
        Check.due("fail(0)", x.fail(0), true);
        Check.changed("fail(0)", before, x, "PENDING=6", "pending offsets=4 5 6 7 12 13", "ESTABLISHED=2",
            "sf0.STATE=2", "sf0.CWND=0", "sf0.records=");
        Check.due("send(2) reinjects", x.send(2), 4);
        Check.due("from offset", x.segment(2, 0, MultipathStream.G_DSN), 4);
    }

    private static void leavesOutWhatIsDelivered() {
        MultipathStream x = Make.written(2, 1, 1, 1);
        x.send(0);
        x.fail(0);
        Make.write(x, 2);
        x.send(1);
        x.deliver(0);
        Map<String, String> before = Snapshot.of(x);
        Check.due("fail(1)", x.fail(1), true);
        Check.changed("fail(1)", before, x, "PENDING=2", "pending offsets=2 3", "ESTABLISHED=1",
            "sf1.STATE=2", "sf1.CWND=0", "sf1.records=");
    }

    private static void reinjectsWhatIsOnlyHeld() {
        MultipathStream x = Make.written(8, 1, 1, 1);
        x.send(0);
        x.send(1);
        x.fail(1);
        x.send(2);
        x.deliver(1);
        Map<String, String> before = Snapshot.of(x);
        Check.due("fail(2)", x.fail(2), true);
        Check.changed("fail(2)", before, x, "PENDING=4", "pending offsets=4 5 6 7", "ESTABLISHED=1",
            "sf2.STATE=2", "sf2.CWND=0", "sf2.records=");
        Check.due("held still", x.conn(MultipathStream.C_HELD), 4);
    }

    private static void reinjectsBehindATimeout() {
        MultipathStream x = Make.written(8, 1, 1, 1);
        x.send(0);
        x.send(0);
        x.timeout(0);
        Check.due("fail(0)", x.fail(0), true);
        Check.due("both segments are pending again", x.conn(MultipathStream.C_PENDING), 8);
        Check.due("sndNxt stays", x.subflow(0, MultipathStream.F_SND_NXT), 0);
        Check.due("sndHigh stays", x.subflow(0, MultipathStream.F_SND_HIGH), 2);
        Check.due("the channel stays", x.subflow(0, MultipathStream.F_CHANNEL), 2);
    }

    private static void takesTheRecordsAfterManySegments() {
        MultipathStream x = new MultipathStream(32, 1, 1, 1);
        Make.carry(x, 1, 15);
        Make.write(x, 8);
        x.send(1);
        x.send(1);
        Check.due("fail(1)", x.fail(1), true);
        Check.due("pending", Snapshot.of(x).get("pending offsets"), "15 16 17 18 19 20 21 22");
    }

    private static void lastSubflowMayFail() {
        MultipathStream x = Make.written(4, 1, 1, 1);
        x.send(2);
        Check.due("fail(0)", x.fail(0), true);
        Check.due("fail(1)", x.fail(1), true);
        Check.due("fail(2)", x.fail(2), true);
        Check.due("established", x.conn(MultipathStream.C_ESTABLISHED), 0);
        Check.due("pending", x.conn(MultipathStream.C_PENDING), 4);
        Check.due("its segment still arrives", x.deliver(2), 4);
        Check.due("pending after it", x.conn(MultipathStream.C_PENDING), 0);
    }
}
