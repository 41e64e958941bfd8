import java.util.Map;

/** Promise 3: send. */
public final class SendTest {
    public static void main(String[] args) {
        makesNewSegments();
        stopsAtAGap();
        startsAboveWhatIsDelivered();
        retransmitsTheRecord();
        refusesWrongSubflows();
        refusesInOrder();
        refusesWithNothingToSend();
        windowIsAtMostMaxOutstanding();
        windowRoundsDown();
        Check.end();
    }

    private static void makesNewSegments() {
        MultipathStream x = Make.written(6, 1, 2, 3);
        Map<String, String> before = Snapshot.of(x);
        Check.due("send(1)", x.send(1), 4);
        Check.changed("send(1)", before, x, "PENDING=2", "SENT=1", "pending offsets=4 5", "sf1.SND_NXT=1",
            "sf1.SND_HIGH=1", "sf1.CHANNEL=1", "sf1.segments=(0 0 4)", "sf1.records=(0 0 4)");
        before = Snapshot.of(x);
        Check.due("send(1) again", x.send(1), 2);
        Check.changed("send(1) again", before, x, "PENDING=0", "SENT=2", "pending offsets=", "sf1.SND_NXT=2",
            "sf1.SND_HIGH=2", "sf1.CHANNEL=2", "sf1.segments=(0 0 4)(1 4 2)", "sf1.records=(0 0 4)(1 4 2)");
        Make.write(x, 1);
        Check.due("send(2) of one byte", x.send(2), 1);
        Check.due("its ssn is its subflow's own", x.segment(2, 0, MultipathStream.G_SSN), 0);
    }

    private static void stopsAtAGap() {
        MultipathStream x = Make.written(2, 1, 1, 1);
        Check.due("send(0)", x.send(0), 2);
        Make.write(x, 1);
        Check.due("send(1)", x.send(1), 1);
        Make.write(x, 5);
        x.fail(0);
        Check.due("send(2) before the gap", x.send(2), 2);
        Check.due("dsn before the gap", x.record(2, 0, MultipathStream.G_DSN), 0);
        Check.due("send(2) after the gap", x.send(2), 4);
        Check.due("dsn after the gap", x.record(2, 1, MultipathStream.G_DSN), 3);
        Check.due("pending", x.offset(7, MultipathStream.O_PENDING), 1);
        Check.due("pendings", x.conn(MultipathStream.C_PENDING), 1);
    }

    private static void startsAboveWhatIsDelivered() {
        MultipathStream x = Make.written(6, 1, 1, 1);
        x.send(0);
        x.fail(0);
        Check.due("pendings after fail", x.conn(MultipathStream.C_PENDING), 6);
        Check.due("the failed path still brings its segment", x.deliver(0), 4);
        Check.due("send(1)", x.send(1), 2);
        Check.due("dsn", x.segment(1, 0, MultipathStream.G_DSN), 4);
    }

    private static void retransmitsTheRecord() {
        MultipathStream x = Make.written(7, 1, 1, 1);
        x.send(0);
        x.send(0);
        Make.write(x, 3);
        x.timeout(0);
        Map<String, String> before = Snapshot.of(x);
        Check.due("the first retransmission", x.send(0), 4);
        Check.changed("the first retransmission", before, x, "SENT=3", "sf0.SND_NXT=1", "sf0.CHANNEL=3",
            "sf0.segments=(0 0 4)(1 4 3)(0 0 4)");
        Check.due("deliver(0)", x.deliver(0), 4);
        before = Snapshot.of(x);
        Check.due("the second retransmission", x.send(0), 3);
        Check.changed("the second retransmission", before, x, "SENT=4", "sf0.SND_NXT=2", "sf0.CHANNEL=3",
            "sf0.segments=(1 4 3)(0 0 4)(1 4 3)");
    }

    private static void refusesWrongSubflows() {
        MultipathStream x = Make.written(6, 1, 1, 1);
        for (int sf : Make.NO_SUBFLOWS) {
            Refused.send(x, sf, MultipathStream.R_BAD_SUBFLOW);
        }
    }

    private static void refusesInOrder() {
        MultipathStream x = Make.written(32, 1, 1, 1);
        x.send(0);
        x.send(0);
        Refused.send(x, 0, MultipathStream.R_WINDOW);
        Make.duplicate(x, 0, 6);
        Refused.send(x, 0, MultipathStream.R_WINDOW);
        x.timeout(0);
        Refused.send(x, 0, MultipathStream.R_CHANNEL_FULL);
        x.drop(0);
        Check.due("a retransmission with room for one", x.send(0), 4);
        Refused.send(x, 0, MultipathStream.R_WINDOW);
        x.fail(0);
        Refused.send(x, 0, MultipathStream.R_FAILED);

        MultipathStream y = Make.written(4, 1, 1, 1);
        y.send(2);
        Make.duplicate(y, 2, 7);
        Refused.send(y, 2, MultipathStream.R_CHANNEL_FULL);
        y.fail(2);
        y.fail(1);
        y.fail(0);
        Refused.send(y, 0, MultipathStream.R_FAILED);
        Refused.send(y, 2, MultipathStream.R_FAILED);
    }

    private static void refusesWithNothingToSend() {
        MultipathStream x = new MultipathStream(32, 1, 1, 1);
        Refused.send(x, 0, MultipathStream.R_NOTHING);
        Make.write(x, 5);
        x.send(0);
        x.send(0);
        Refused.send(x, 0, MultipathStream.R_WINDOW);
        Refused.send(x, 1, MultipathStream.R_NOTHING);
        x.deliver(0);
        Refused.send(x, 0, MultipathStream.R_NOTHING);
        x.timeout(0);
        Check.due("a retransmission needs nothing pending", x.send(0), 1);
    }

    private static void windowIsAtMostMaxOutstanding() {
        MultipathStream x = new MultipathStream(32, 1, 1, 1);
        x.fail(0);
        x.fail(2);
        Make.carry(x, 1, 60);
        Check.holds("cwnd is above nine segments", x.subflow(1, MultipathStream.F_CWND) >= 9 * 256);
        Make.write(x, 32);
        for (int k = 0; k < 8; k++) {
            Check.due("send(1) " + k, x.send(1), 4);
        }
        Refused.send(x, 1, MultipathStream.R_WINDOW);
        x.drop(1);
        Refused.send(x, 1, MultipathStream.R_WINDOW);
        Check.due("sndHigh", x.subflow(1, MultipathStream.F_SND_HIGH), 68);
        Check.due("sndUna", x.subflow(1, MultipathStream.F_SND_UNA), 60);
        for (int ssn = 60; ssn < 68; ssn++) {
            Check.due("record " + ssn, x.record(1, ssn, MultipathStream.G_DSN), 60 + (ssn - 60) * 4);
        }
    }

    private static void windowRoundsDown() {
        MultipathStream x = new MultipathStream(32, 1, 1, 1);
        x.fail(1);
        x.fail(2);
        // Alone, a subflow grows by 65536 / cwnd: 512, 640, 742, 830.
        Make.carry(x, 0, 2);
        Check.due("cwnd", x.subflow(0, MultipathStream.F_CWND), 742);
        Make.write(x, 16);
        x.send(0);
        Check.due("the second send of two", x.send(0), 4);
        Refused.send(x, 0, MultipathStream.R_WINDOW);
        x.deliver(0);
        Check.due("cwnd after an ACK", x.subflow(0, MultipathStream.F_CWND), 830);
        x.send(0);
        Check.due("the third of three", x.send(0), 4);
        Refused.send(x, 0, MultipathStream.R_WINDOW);
    }
}
