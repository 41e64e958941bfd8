import java.util.Map;

/** Promise 1, Construction and the fresh object: a test for each sentence that names a boundary case. */
public final class ConstructionEdgesTest {
    private static final int[] BELOW_1 = {0, -1, -2, -4, -255, -65535, Integer.MIN_VALUE, Integer.MIN_VALUE + 1};
    private static final int[] ABOVE_4 = {5, 6, 8, 257, 65537, Integer.MAX_VALUE - 1, Integer.MAX_VALUE};

    public static void main(String[] args) {
        Check.sentence("bufCap: below 8 becomes 8", ConstructionEdgesTest::bufCapBelow);
        Check.sentence("above 32 becomes 32", ConstructionEdgesTest::bufCapAbove);
        Check.sentence("otherwise it is kept", ConstructionEdgesTest::bufCapKept);
        Check.sentence("rtt0, rtt1, rtt2 are the rtt of subflows 0, 1, 2.", ConstructionEdgesTest::everyRttKept);
        Check.sentence("Each one below 1 becomes 1", ConstructionEdgesTest::rttBelow);
        Check.sentence("above 4 becomes 4", ConstructionEdgesTest::rttAbove);
        Check.sentence("accepts any int for each argument and clamps each one into its range",
            ConstructionEdgesTest::allClampedAtOnce);
        Check.sentence("The rtt values never change afterwards.", ConstructionEdgesTest::rttStays);
        Check.sentence("written = dataUna = rcvDataNxt = 0", ConstructionEdgesTest::nothingWritten);
        Check.sentence("nothing pending or held", ConstructionEdgesTest::nothingPendingOrHeld);
        Check.sentence("sent = discarded = 0", ConstructionEdgesTest::nothingCounted);
        Check.sentence("every subflow established with cwnd = CWND_INIT", ConstructionEdgesTest::established);
        Check.sentence("sndUna = sndNxt = sndHigh = rcvNxt = 0 on every subflow", ConstructionEdgesTest::countersZero);
        Check.sentence("every channel empty", ConstructionEdgesTest::channelsEmpty);
        Check.sentence("The fresh object has", ConstructionEdgesTest::objectsShareNothing);
        Check.end();
    }

    private static void bufCapIs(int argument, int bufCap) {
        MultipathStream x = new MultipathStream(argument, 1, 2, 3);
        Check.due("conn(C_BUF_CAP) for " + argument, x.conn(MultipathStream.C_BUF_CAP), bufCap);
        Make.write(x, bufCap);
        Refused.write(x, 1);
    }

    private static void bufCapBelow() {
        int[] below = {7, 6, 1, 0, -1, -8, -20, -256, Integer.MIN_VALUE, Integer.MIN_VALUE + 20};
        for (int argument : below) {
            bufCapIs(argument, 8);
        }
    }

    private static void bufCapAbove() {
        int[] above = {33, 34, 64, 255, 256, 264, 65552, Integer.MAX_VALUE - 1, Integer.MAX_VALUE};
        for (int argument : above) {
            bufCapIs(argument, 32);
        }
    }

    private static void bufCapKept() {
        for (int argument = 8; argument <= 32; argument++) {
            bufCapIs(argument, argument);
        }
    }

    private static void rttsAre(MultipathStream x, int... rtts) {
        for (int sf = 0; sf < 3; sf++) {
            Check.due("subflow(" + sf + ", F_RTT)", x.subflow(sf, MultipathStream.F_RTT), rtts[sf]);
        }
    }

    private static void everyRttKept() {
        for (int rtt0 = 1; rtt0 <= 4; rtt0++) {
            for (int rtt1 = 1; rtt1 <= 4; rtt1++) {
                for (int rtt2 = 1; rtt2 <= 4; rtt2++) {
                    rttsAre(new MultipathStream(16, rtt0, rtt1, rtt2), rtt0, rtt1, rtt2);
                }
            }
        }
    }

    private static void eachRttBecomes(int argument, int rtt) {
        rttsAre(new MultipathStream(16, argument, 2, 3), rtt, 2, 3);
        rttsAre(new MultipathStream(16, 2, argument, 3), 2, rtt, 3);
        rttsAre(new MultipathStream(16, 2, 3, argument), 2, 3, rtt);
    }

    private static void rttBelow() {
        for (int argument : BELOW_1) {
            eachRttBecomes(argument, 1);
            // The clamped value must be the one that is used: 0 and 1 are a tie, and the lowest index has it.
            MultipathStream x = new MultipathStream(16, 1, argument, argument);
            Make.write(x, 4);
            Check.due("sendAll()", x.sendAll(), 1);
            Check.due("the tie goes to 0", x.subflow(0, MultipathStream.F_CHANNEL), 1);
        }
    }

    private static void rttAbove() {
        for (int argument : ABOVE_4) {
            eachRttBecomes(argument, 4);
            MultipathStream x = new MultipathStream(16, argument, 4, argument);
            Make.write(x, 4);
            Check.due("sendAll()", x.sendAll(), 1);
            Check.due("the tie goes to 0", x.subflow(0, MultipathStream.F_CHANNEL), 1);
            Check.due("deliver(0)", x.deliver(0), 4);
            Check.due("cwnd grows as with rtt 4", x.subflow(0, MultipathStream.F_CWND), 526);
        }
    }

    private static void allClampedAtOnce() {
        for (int low : BELOW_1) {
            for (int high : ABOVE_4) {
                MultipathStream x = new MultipathStream(low, high, low, high);
                Check.due("bufCap", x.conn(MultipathStream.C_BUF_CAP), 8);
                rttsAre(x, 4, 1, 4);
                MultipathStream y = new MultipathStream(Integer.MAX_VALUE, low, high, low);
                Check.due("bufCap", y.conn(MultipathStream.C_BUF_CAP), 32);
                rttsAre(y, 1, 4, 1);
            }
        }
    }

    private static void rttStays() {
        MultipathStream x = Make.written(32, 4, 1, 3);
        x.sendAll();
        rttsAre(x, 4, 1, 3);
        x.deliver(1);
        x.duplicate(1);
        x.drop(2);
        x.timeout(2);
        x.timeout(0);
        rttsAre(x, 4, 1, 3);
        Make.fail(x, 0, 1, 2);
        x.deliver(0);
        x.deliver(1);
        rttsAre(x, 4, 1, 3);
    }

    /** Fresh objects made with arguments in the ranges, at their ends and outside. */
    private static MultipathStream[] fresh() {
        return new MultipathStream[] {
            new MultipathStream(16, 1, 2, 3), new MultipathStream(8, 1, 1, 1), new MultipathStream(32, 4, 4, 4),
            new MultipathStream(7, 0, 0, 0), new MultipathStream(33, 5, 5, 5),
            new MultipathStream(Integer.MIN_VALUE, Integer.MIN_VALUE, Integer.MIN_VALUE, Integer.MIN_VALUE),
            new MultipathStream(Integer.MAX_VALUE, Integer.MAX_VALUE, Integer.MAX_VALUE, Integer.MAX_VALUE)
        };
    }

    private static void nothingWritten() {
        for (MultipathStream x : fresh()) {
            Check.due("written", x.conn(MultipathStream.C_WRITTEN), 0);
            Check.due("dataUna", x.conn(MultipathStream.C_DATA_UNA), 0);
            Check.due("rcvDataNxt", x.conn(MultipathStream.C_DELIVERED), 0);
            for (int dsn = 0; dsn < 256; dsn++) {
                Check.due("the written byte " + dsn, x.offset(dsn, MultipathStream.O_WRITTEN), -1);
                Check.due("the delivered byte " + dsn, x.offset(dsn, MultipathStream.O_DELIVERED), -1);
            }
        }
    }

    private static void nothingPendingOrHeld() {
        for (MultipathStream x : fresh()) {
            Check.due("pending", x.conn(MultipathStream.C_PENDING), 0);
            Check.due("held", x.conn(MultipathStream.C_HELD), 0);
            for (int dsn = 0; dsn < 256; dsn++) {
                Check.due("pending " + dsn, x.offset(dsn, MultipathStream.O_PENDING), 0);
                Check.due("held " + dsn, x.offset(dsn, MultipathStream.O_HELD), 0);
            }
        }
    }

    private static void nothingCounted() {
        for (MultipathStream x : fresh()) {
            Check.due("sent", x.conn(MultipathStream.C_SENT), 0);
            Check.due("discarded", x.conn(MultipathStream.C_DISCARDED), 0);
        }
    }

    private static void established() {
        for (MultipathStream x : fresh()) {
            Check.due("established", x.conn(MultipathStream.C_ESTABLISHED), 3);
            for (int sf = 0; sf < 3; sf++) {
                Check.due("state of " + sf, x.subflow(sf, MultipathStream.F_STATE), 1);
                Check.due("cwnd of " + sf, x.subflow(sf, MultipathStream.F_CWND), 512);
            }
        }
    }

    private static void countersZero() {
        for (MultipathStream x : fresh()) {
            for (int sf = 0; sf < 3; sf++) {
                Check.due("sndUna of " + sf, x.subflow(sf, MultipathStream.F_SND_UNA), 0);
                Check.due("sndNxt of " + sf, x.subflow(sf, MultipathStream.F_SND_NXT), 0);
                Check.due("sndHigh of " + sf, x.subflow(sf, MultipathStream.F_SND_HIGH), 0);
                Check.due("rcvNxt of " + sf, x.subflow(sf, MultipathStream.F_RCV_NXT), 0);
                for (int ssn = -1; ssn <= 8; ssn++) {
                    Check.due("a record of " + sf, x.record(sf, ssn, MultipathStream.G_LEN), -1);
                }
            }
        }
    }

    private static void channelsEmpty() {
        for (MultipathStream x : fresh()) {
            for (int sf = 0; sf < 3; sf++) {
                Check.due("channel " + sf, x.subflow(sf, MultipathStream.F_CHANNEL), 0);
                for (int pos = -1; pos <= 8; pos++) {
                    Check.due("a segment of " + sf, x.segment(sf, pos, MultipathStream.G_LEN), -1);
                }
                Refused.deliver(x, sf, MultipathStream.R_EMPTY);
            }
        }
    }

    private static void objectsShareNothing() {
        Map<String, String> fresh = Snapshot.of(new MultipathStream(20, 1, 2, 3));
        MultipathStream used = Make.manySided();
        Map<String, String> before = Snapshot.of(used);
        MultipathStream second = new MultipathStream(20, 1, 2, 3);
        Check.due("an object made after another was used", Snapshot.of(second), fresh);
        // Other bytes in other segments than the first object's, on every subflow.
        for (int k = 0; k < 20; k++) {
            second.write(200 - k);
        }
        int[] order = {2, 1, 0, 2, 1};
        for (int sf : order) {
            Make.send(second, sf, 4);
        }
        second.deliver(2);
        second.timeout(1);
        Make.fail(second, 1);
        Check.unchanged("another object's call", before, used);
        Check.due("the other object's byte", second.offset(0, MultipathStream.O_DELIVERED), 200);
    }
}
