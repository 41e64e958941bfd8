import java.util.Map;

/** Promise 5: deliver, all but the coupled increase. */
public final class DeliverTest {
    public static void main(String[] args) {
        refusesWrongSubflowsAndEmptyChannels();
        deliversInOrder();
        holdsWhatIsEarly();
        throwsAwayAnyOtherSsn();
        countsDeliveredBytesAsDiscarded();
        countsHeldBytesAsDiscarded();
        failedSubflowIsNotAcknowledged();
        deliveredOffsetsStopBeingPending();
        sndNxtIsRaisedToSndUna();
        sndNxtIsNeverLowered();
        fillsTheWholeReorderWindow();
        Check.end();
    }

    private static void refusesWrongSubflowsAndEmptyChannels() {
        MultipathStream x = Make.written(8, 1, 1, 1);
        x.send(0);
        x.fail(2);
        for (int sf : Make.NO_SUBFLOWS) {
            Refused.deliver(x, sf, MultipathStream.R_BAD_SUBFLOW);
        }
        Refused.deliver(x, 1, MultipathStream.R_EMPTY);
        Refused.deliver(x, 2, MultipathStream.R_EMPTY);
        x.deliver(0);
        Refused.deliver(x, 0, MultipathStream.R_EMPTY);
    }

    private static void deliversInOrder() {
        MultipathStream x = Make.written(6, 1, 2, 3);
        x.send(0);
        x.send(0);
        Map<String, String> before = Snapshot.of(x);
        Check.due("deliver(0)", x.deliver(0), 4);
        Check.changed("deliver(0)", before, x, "DATA_UNA=4", "DELIVERED=4", "delivered bytes=0:10 1:11 2:12 3:13",
            "sf0.SND_UNA=1", "sf0.RCV_NXT=1", "sf0.CHANNEL=1", "sf0.segments=(1 4 2)", "sf0.records=(1 4 2)",
            "sf0.CWND=550");
        Check.due("deliver(0) again", x.deliver(0), 2);
        Check.due("delivered", x.conn(MultipathStream.C_DELIVERED), 6);
    }

    private static void holdsWhatIsEarly() {
        MultipathStream x = Make.written(10, 1, 2, 3);
        x.send(0);
        x.send(1);
        x.send(2);
        Map<String, String> before = Snapshot.of(x);
        Check.due("deliver(2)", x.deliver(2), 0);
        Check.changed("deliver(2)", before, x, "HELD=2", "held offsets=8 9", "sf2.SND_UNA=1", "sf2.RCV_NXT=1",
            "sf2.CHANNEL=0", "sf2.segments=", "sf2.records=", "sf2.CWND=550");
        Check.due("deliver(0) leaves the gap", x.deliver(0), 4);
        Check.due("held", x.conn(MultipathStream.C_HELD), 2);
        before = Snapshot.of(x);
        Check.due("deliver(1) closes the gap", x.deliver(1), 6);
        Check.holds("its cwnd grew", x.subflow(1, MultipathStream.F_CWND) > 512);
        Check.changed("deliver(1)", before, x, "DATA_UNA=10", "DELIVERED=10", "HELD=0", "held offsets=",
            "delivered bytes=0:10 1:11 2:12 3:13 4:14 5:15 6:16 7:17 8:18 9:19",
            "sf1.SND_UNA=1", "sf1.RCV_NXT=1", "sf1.CHANNEL=0", "sf1.segments=", "sf1.records=",
            "sf1.CWND=" + x.subflow(1, MultipathStream.F_CWND));
    }

    private static void throwsAwayAnyOtherSsn() {
        MultipathStream x = Make.written(8, 1, 1, 1);
        x.send(0);
        x.send(0);
        x.drop(0);
        Map<String, String> before = Snapshot.of(x);
        Check.due("a later ssn", x.deliver(0), 0);
        Check.changed("a later ssn", before, x, "sf0.CHANNEL=0", "sf0.segments=");

        MultipathStream y = Make.written(8, 1, 1, 1);
        y.send(0);
        y.duplicate(0);
        y.deliver(0);
        before = Snapshot.of(y);
        Check.due("an earlier ssn", y.deliver(0), 0);
        Check.changed("an earlier ssn", before, y, "sf0.CHANNEL=0", "sf0.segments=");
    }

    private static void countsDeliveredBytesAsDiscarded() {
        MultipathStream x = Make.written(2, 1, 1, 1);
        x.send(0);
        x.fail(0);
        Make.write(x, 2);
        Check.due("send(1) takes old and new bytes", x.send(1), 4);
        Check.due("deliver(0)", x.deliver(0), 2);
        Check.due("deliver(1)", x.deliver(1), 2);
        Check.due("discarded", x.conn(MultipathStream.C_DISCARDED), 2);
        Check.due("delivered", x.conn(MultipathStream.C_DELIVERED), 4);
        Check.due("subflow 1 is acknowledged", x.subflow(1, MultipathStream.F_SND_UNA), 1);
    }

    private static void countsHeldBytesAsDiscarded() {
        MultipathStream x = Make.written(7, 1, 1, 1);
        x.send(0);
        x.send(1);
        x.fail(1);
        Make.write(x, 1);
        Check.due("send(2) takes old and new bytes", x.send(2), 4);
        Check.due("deliver(1)", x.deliver(1), 0);
        Check.due("held", x.conn(MultipathStream.C_HELD), 3);
        Map<String, String> before = Snapshot.of(x);
        Check.due("deliver(2)", x.deliver(2), 0);
        Check.changed("deliver(2)", before, x, "DISCARDED=3", "HELD=4", "held offsets=4 5 6 7", "sf2.SND_UNA=1",
            "sf2.RCV_NXT=1", "sf2.CHANNEL=0", "sf2.segments=", "sf2.records=",
            "sf2.CWND=" + x.subflow(2, MultipathStream.F_CWND));
        Check.due("deliver(0)", x.deliver(0), 8);
        Check.due("discarded", x.conn(MultipathStream.C_DISCARDED), 3);
    }

    private static void failedSubflowIsNotAcknowledged() {
        MultipathStream x = Make.written(8, 1, 1, 1);
        x.send(0);
        x.send(0);
        x.fail(0);
        Map<String, String> before = Snapshot.of(x);
        Check.due("deliver(0)", x.deliver(0), 4);
        Check.changed("deliver(0) on a failed subflow", before, x, "DATA_UNA=4", "DELIVERED=4", "PENDING=4",
            "pending offsets=4 5 6 7", "delivered bytes=0:10 1:11 2:12 3:13",
            "sf0.RCV_NXT=1", "sf0.CHANNEL=1", "sf0.segments=(1 4 4)");
        Check.due("deliver(0) again", x.deliver(0), 4);
        Check.due("rcvNxt", x.subflow(0, MultipathStream.F_RCV_NXT), 2);
        Check.due("sndUna", x.subflow(0, MultipathStream.F_SND_UNA), 0);
        Check.due("cwnd", x.subflow(0, MultipathStream.F_CWND), 0);
    }

    private static void deliveredOffsetsStopBeingPending() {
        MultipathStream x = Make.written(8, 1, 1, 1);
        x.send(1);
        x.send(0);
        Check.due("deliver(0) holds", x.deliver(0), 0);
        x.fail(1);
        Make.write(x, 2);
        Check.due("pending", x.conn(MultipathStream.C_PENDING), 6);
        Check.due("deliver(1)", x.deliver(1), 8);
        Check.due("pending after it", x.conn(MultipathStream.C_PENDING), 2);
        Check.due("offset 3", x.offset(3, MultipathStream.O_PENDING), 0);
        Check.due("offset 8", x.offset(8, MultipathStream.O_PENDING), 1);
        Check.due("offset 9", x.offset(9, MultipathStream.O_PENDING), 1);
    }

    private static void sndNxtIsRaisedToSndUna() {
        MultipathStream x = Make.written(8, 1, 1, 1);
        x.send(0);
        x.send(0);
        x.timeout(0);
        Check.due("deliver(0) of the first copy", x.deliver(0), 4);
        Check.due("sndUna", x.subflow(0, MultipathStream.F_SND_UNA), 1);
        Check.due("sndNxt", x.subflow(0, MultipathStream.F_SND_NXT), 1);
        Check.due("sndHigh", x.subflow(0, MultipathStream.F_SND_HIGH), 2);
        Check.due("the retransmission is the second", x.send(0), 4);
        Check.due("its ssn", x.segment(0, 1, MultipathStream.G_SSN), 1);
    }

    private static void sndNxtIsNeverLowered() {
        MultipathStream x = Make.written(8, 1, 1, 1);
        x.send(0);
        x.send(0);
        x.deliver(0);
        Check.due("sndUna", x.subflow(0, MultipathStream.F_SND_UNA), 1);
        Check.due("sndNxt", x.subflow(0, MultipathStream.F_SND_NXT), 2);
    }

    private static void fillsTheWholeReorderWindow() {
        MultipathStream x = new MultipathStream(8, 1, 1, 1);
        Make.write(x, 1);
        x.send(0);
        Make.write(x, 7);
        x.send(1);
        x.send(2);
        Check.due("deliver(1)", x.deliver(1), 0);
        Check.due("deliver(2) of the last offset of the window", x.deliver(2), 0);
        Check.due("held", x.conn(MultipathStream.C_HELD), 7);
        Check.due("discarded", x.conn(MultipathStream.C_DISCARDED), 0);
        Check.due("deliver(0)", x.deliver(0), 8);
    }
}
