/** "State": a test for each sentence that sets no bound (for those that do, see StateEdgesTest). */
public final class StateTest {
    public static void main(String[] args) {
        Check.sentence("The bytes written so far sit at offsets 0 .. written-1", StateTest::bytesSitInOrder);
        Check.sentence("The offset of a byte is its data-sequence number (dsn).", StateTest::offsetIsDsn);
        Check.sentence("Pending means the byte must still be scheduled on a subflow.", StateTest::pendingIsSent);
        Check.sentence("Pending means the byte must still be scheduled on a subflow. (and else it has been)",
            StateTest::elseOnItsWay);
        Check.sentence("state: S_ESTABLISHED or S_FAILED", StateTest::twoStates);
        Check.sentence("They count segments, that is, subflow sequence numbers (ssn).", StateTest::countersCount);
        Check.sentence("Position 0 is the head, the next to arrive.", StateTest::headArrives);
        Check.sentence("Receiver counter rcvNxt: the only ssn the subflow receiver accepts next.",
            StateTest::onlyRcvNxtIsAccepted);
        Check.sentence("It carries the stream bytes at offsets dsn .. dsn+len-1.", StateTest::carriesItsBytes);
        Check.sentence("the delivered stream is offsets 0 .. rcvDataNxt-1 with their bytes",
            StateTest::deliveredStream);
        Check.sentence("Held offsets: offsets >= rcvDataNxt whose byte has arrived but is not yet delivered.",
            StateTest::arrivedButNotDelivered);
        Check.end();
    }

    private static void bytesSitInOrder() {
        MultipathStream x = new MultipathStream(32, 1, 1, 1);
        for (int d = 0; d < 256; d++) {
            Check.due("write", x.write(d * 31 + 5), true);
            x.send(1);
            x.deliver(1);
        }
        for (int d = 0; d < 256; d++) {
            Check.due("byte " + d, x.offset(d, MultipathStream.O_WRITTEN), (d * 31 + 5) % 256);
        }
    }

    private static void offsetIsDsn() {
        MultipathStream x = new MultipathStream(8, 1, 1, 1);
        for (int d = 0; d < 256; d++) {
            Make.write(x, 1);
            Make.send(x, d % 3, 1);
            Check.due("dsn", x.segment(d % 3, 0, MultipathStream.G_DSN), d);
            x.deliver(d % 3);
        }
    }

    private static void pendingIsSent() {
        MultipathStream x = Make.manySided();
        Check.due("pending", Snapshot.of(x).get("pending offsets"), "4 5 6 7 20");
        Make.send(x, 1, 4);
        Check.due("the first pending offsets go first", x.segment(1, 1, MultipathStream.G_DSN), 4);
        x.deliver(1);
        Check.due("pending", Snapshot.of(x).get("pending offsets"), "20");
        Make.send(x, 1, 1);
        Check.due("then the last", x.segment(1, 1, MultipathStream.G_DSN), 20);
        Check.due("pending", x.conn(MultipathStream.C_PENDING), 0);
    }

    /** In many rows of calls: what is neither pending nor held nor delivered has a record that brings it yet. */
    private static void elseOnItsWay() {
        Rows.afterEveryCall(step -> {
            MultipathStream x = step.x;
            boolean[] kept = kept(x);
            boolean right = true;
            for (int d = x.conn(MultipathStream.C_DATA_UNA); d < x.conn(MultipathStream.C_WRITTEN); d++) {
                boolean pending = x.offset(d, MultipathStream.O_PENDING) == 1;
                right &= pending || kept[d] || x.offset(d, MultipathStream.O_HELD) == 1;
            }
            return right;
        });
    }

    private static boolean[] kept(MultipathStream x) {
        boolean[] kept = new boolean[256];
        for (int sf = 0; sf < 3; sf++) {
            int high = x.subflow(sf, MultipathStream.F_SND_HIGH);
            for (int ssn = x.subflow(sf, MultipathStream.F_SND_UNA); ssn < high; ssn++) {
                int dsn = x.record(sf, ssn, MultipathStream.G_DSN);
                for (int k = 0; k < x.record(sf, ssn, MultipathStream.G_LEN); k++) {
                    kept[dsn + k] = true;
                }
            }
        }
        return kept;
    }

    private static void twoStates() {
        Rows.onEverySubflow((x, sf) -> {
            int state = x.subflow(sf, MultipathStream.F_STATE);
            return state == MultipathStream.S_ESTABLISHED || state == MultipathStream.S_FAILED;
        });
    }

    private static void countersCount() {
        MultipathStream x = new MultipathStream(32, 1, 1, 1);
        // Segments of one and of four bytes count alike.
        int[] lengths = {1, 4, 2, 3, 4};
        for (int k = 0; k < lengths.length; k++) {
            Make.write(x, lengths[k]);
            Make.send(x, 2, lengths[k]);
            Check.due("sndNxt", x.subflow(2, MultipathStream.F_SND_NXT), k + 1);
            Check.due("sndHigh", x.subflow(2, MultipathStream.F_SND_HIGH), k + 1);
            Check.due("its ssn", x.segment(2, 0, MultipathStream.G_SSN), k);
            x.deliver(2);
            Check.due("sndUna", x.subflow(2, MultipathStream.F_SND_UNA), k + 1);
            Check.due("rcvNxt", x.subflow(2, MultipathStream.F_RCV_NXT), k + 1);
        }
    }

    private static void headArrives() {
        MultipathStream x = Make.written(8, 1, 1, 1);
        Make.send(x, 0, 4, 4);
        x.drop(0);
        x.timeout(0);
        Make.send(x, 0, 4);
        Check.due("the head has ssn 1", x.segment(0, 0, MultipathStream.G_SSN), 1);
        Check.due("so it arrives before ssn 0", x.deliver(0), 0);
        Check.due("the head has ssn 0", x.segment(0, 0, MultipathStream.G_SSN), 0);
        Check.due("and arrives", x.deliver(0), 4);
        Check.due("none is left", x.segment(0, 0, MultipathStream.G_SSN), -1);
    }

    /** In many rows of calls: rcvNxt grows by 1 where the head had just that ssn, and else stays. */
    private static void onlyRcvNxtIsAccepted() {
        Rows.foretold("rcvNxt", (x, calls) -> {
            int rcvNxt = x.subflow(calls.argument, MultipathStream.F_RCV_NXT);
            boolean accepted = calls.call == Calls.DELIVER && rcvNxt >= 0
                && x.segment(calls.argument, 0, MultipathStream.G_SSN) == rcvNxt;
            return accepted ? rcvNxt + 1 : rcvNxt;
        }, (x, calls) -> x.subflow(calls.argument, MultipathStream.F_RCV_NXT));
    }

    private static void carriesItsBytes() {
        int[] lengths = {3, 1, 4, 2};
        MultipathStream x = new MultipathStream(32, 1, 1, 1);
        int dsn = 0;
        for (int len : lengths) {
            Make.write(x, len);
            Make.send(x, 0, len);
            Check.due("dsn", x.segment(0, 0, MultipathStream.G_DSN), dsn);
            Check.due("deliver(0)", x.deliver(0), len);
            dsn += len;
            Check.due("the last byte it brings", x.offset(dsn - 1, MultipathStream.O_DELIVERED), dsn + 9);
            Check.due("no byte more", x.offset(dsn, MultipathStream.O_DELIVERED), -1);
        }
    }

    private static void deliveredStream() {
        MultipathStream x = Make.manySided();
        Check.due("delivered", Snapshot.of(x).get("delivered bytes"), "0:10 1:11 2:12 3:13");
        x.deliver(0);
        Check.due("delivered", Snapshot.of(x).get("delivered bytes"),
            "0:10 1:11 2:12 3:13 4:14 5:15 6:16 7:17 8:18 9:19 10:20 11:21");
        Check.due("rcvDataNxt", x.conn(MultipathStream.C_DELIVERED), 12);
    }

    private static void arrivedButNotDelivered() {
        MultipathStream x = Make.written(12, 1, 1, 1);
        Make.send(x, 0, 4);
        Make.send(x, 1, 4);
        Make.send(x, 2, 4);
        Check.due("sent but not arrived", x.conn(MultipathStream.C_HELD), 0);
        x.deliver(2);
        Check.due("arrived", Snapshot.of(x).get("held offsets"), "8 9 10 11");
        x.deliver(0);
        Check.due("delivered at once", Snapshot.of(x).get("held offsets"), "8 9 10 11");
        x.deliver(1);
        Check.due("delivered", Snapshot.of(x).get("held offsets"), "");
    }
}
