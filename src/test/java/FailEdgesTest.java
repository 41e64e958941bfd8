import java.util.Map;

/** Promise 9, fail: a test for each sentence that names a boundary case. */
public final class FailEdgesTest {
    public static void main(String[] args) {
        Check.sentence("It answers false, changing nothing [..] sf is not 0..2", FailEdgesTest::badSubflow);
        Check.sentence("It answers false, changing nothing [..] the subflow is already failed",
            FailEdgesTest::alreadyFailed);
        Check.sentence("For every record with sndUna <= ssn < sndHigh (none)", FailEdgesTest::noRecord);
        Check.sentence("For every record with sndUna <= ssn < sndHigh (the first and the last of eight)",
            FailEdgesTest::eightRecords);
        Check.sentence("For every record with sndUna <= ssn < sndHigh (not below sndUna)",
            FailEdgesTest::acknowledgedOnesAreLeftOut);
        Check.sentence("For every record with sndUna <= ssn < sndHigh (not at sndHigh)",
            FailEdgesTest::heldAndAcknowledged);
        Check.sentence("For every record with sndUna <= ssn < sndHigh (not only below sndNxt)",
            FailEdgesTest::beyondSndNxt);
        Check.sentence("with d >= dataUna becomes pending again (all of the record below)",
            FailEdgesTest::recordBelowDataUna);
        Check.sentence("with d >= dataUna becomes pending again (dataUna inside the record)",
            FailEdgesTest::dataUnaInside);
        Check.sentence("with d >= dataUna becomes pending again (held or not)", FailEdgesTest::heldOffsets);
        Check.sentence("every offset d in dsn .. dsn+len-1 (the last of the stream)", FailEdgesTest::endOfTheStream);
        Check.sentence("This is reinjection on the other subflows.", FailEdgesTest::reinjectsOnTheOthers);
        Check.sentence("The records are dropped.", FailEdgesTest::recordsAreDropped);
        Check.sentence("The state becomes S_FAILED.", FailEdgesTest::state);
        Check.sentence("Counters and the channel stay as they are.", FailEdgesTest::channelStays);
        Check.sentence("Segments still in the channel may arrive later, as described in Promise 5.",
            FailEdgesTest::segmentsArriveLater);
        Check.sentence("The call answers true.", FailEdgesTest::answersTrue);
        Check.sentence("Failing the last established subflow is allowed.", FailEdgesTest::lastOne);
        Check.sentence("The stream, written, dataUna, rcvDataNxt, held offsets, sent, discarded and the other "
            + "subflows do not change.", FailEdgesTest::changesNothingElse);
        Check.end();
    }

    private static void badSubflow() {
        MultipathStream x = Make.written(32, 1, 1, 1);
        x.sendAll();
        for (int sf : Make.NO_SUBFLOWS) {
            Refused.fail(x, sf);
        }
        Check.due("fail(0)", x.fail(0), true);
        Check.due("fail(2)", x.fail(2), true);
    }

    private static void alreadyFailed() {
        for (int sf = 0; sf < 3; sf++) {
            MultipathStream x = Make.written(12, 1, 1, 1);
            Make.send(x, sf, 4, 4);
            Make.fail(x, sf);
            Refused.fail(x, sf);
            // The old mappings must not be reinjected a second time once they are on their way again.
            Make.send(x, (sf + 1) % 3, 4, 4);
            Refused.fail(x, sf);
            Make.fail(x, (sf + 1) % 3, (sf + 2) % 3);
            Refused.fail(x, sf);
        }
    }

    private static void failsWith(MultipathStream x, int sf, String pending, int count, int established) {
        Map<String, String> before = Snapshot.of(x);
        Check.due("fail(" + sf + ")", x.fail(sf), true);
        Map<String, String> after = Snapshot.of(x);
        Check.due("pending offsets", after.get("pending offsets"), pending);
        Check.due("pendings", x.conn(MultipathStream.C_PENDING), count);
        Check.due("established", x.conn(MultipathStream.C_ESTABLISHED), established);
        Check.due("state", x.subflow(sf, MultipathStream.F_STATE), MultipathStream.S_FAILED);
        Check.due("cwnd", x.subflow(sf, MultipathStream.F_CWND), 0);
        Check.due("records", after.get("sf" + sf + ".records"), "");
        String[] mayChange = {
            "pending offsets", "PENDING", "ESTABLISHED", "sf" + sf + ".STATE", "sf" + sf + ".CWND",
            "sf" + sf + ".records"
        };
        for (String name : mayChange) {
            before.remove(name);
            after.remove(name);
        }
        Check.due("all else after fail(" + sf + ")", after, before);
    }

    private static void noRecord() {
        failsWith(new MultipathStream(8, 1, 1, 1), 1, "", 0, 2);
        failsWith(Make.written(3, 1, 1, 1), 1, "0 1 2", 3, 2);
        MultipathStream x = Make.written(8, 1, 1, 1);
        Make.send(x, 1, 4);
        Make.send(x, 2, 4);
        Make.duplicate(x, 1, 1);
        Check.due("deliver(1)", x.deliver(1), 4);
        failsWith(x, 1, "", 0, 2);
    }

    private static void eightRecords() {
        MultipathStream x = Make.steered("a".repeat(30));
        Make.write(x, 32);
        Make.send(x, 1, 4, 4, 4, 4, 4, 4, 4, 4);
        StringBuilder all = new StringBuilder("30");
        for (int d = 31; d < 62; d++) {
            all.append(' ').append(d);
        }
        failsWith(x, 1, all.toString(), 32, 0);
    }

    private static void acknowledgedOnesAreLeftOut() {
        MultipathStream x = Make.written(12, 1, 1, 1);
        Make.send(x, 0, 4);
        Make.send(x, 1, 4, 4);
        Check.due("deliver(1) is held", x.deliver(1), 0);
        // The acknowledged 4..7 are held, not delivered, and still belong to no record.
        failsWith(x, 1, "8 9 10 11", 4, 2);
    }

    private static void beyondSndNxt() {
        MultipathStream x = Make.written(8, 1, 1, 1);
        Make.send(x, 0, 4, 4);
        x.timeout(0);
        failsWith(x, 0, "0 1 2 3 4 5 6 7", 8, 2);
        MultipathStream y = Make.written(8, 1, 1, 1);
        Make.send(y, 0, 4, 4);
        y.timeout(0);
        Make.send(y, 0, 4);
        failsWith(y, 0, "0 1 2 3 4 5 6 7", 8, 2);
    }

    private static void recordBelowDataUna() {
        MultipathStream x = Make.written(4, 1, 1, 1);
        Make.send(x, 0, 4);
        Make.fail(x, 0);
        Make.send(x, 1, 4);
        Check.due("deliver(0)", x.deliver(0), 4);
        failsWith(x, 1, "", 0, 1);
    }

    private static void dataUnaInside() {
        for (int n = 1; n <= 3; n++) {
            MultipathStream x = Make.written(n, 1, 1, 1);
            Make.send(x, 0, n);
            Make.fail(x, 0);
            Make.write(x, 4 - n);
            Make.send(x, 1, 4);
            Check.due("deliver(0)", x.deliver(0), n);
            String[] pending = {"1 2 3", "2 3", "3"};
            failsWith(x, 1, pending[n - 1], 4 - n, 1);
        }
    }

    private static void heldOffsets() {
        MultipathStream x = Make.written(8, 1, 1, 1);
        Make.send(x, 2, 4);
        Make.send(x, 0, 4);
        Make.fail(x, 0);
        Make.send(x, 1, 4);
        Check.due("deliver(0)", x.deliver(0), 0);
        Check.due("held", Snapshot.of(x).get("held offsets"), "4 5 6 7");
        failsWith(x, 1, "4 5 6 7", 4, 1);
    }

    private static void endOfTheStream() {
        MultipathStream x = new MultipathStream(8, 1, 1, 1);
        Make.carry(x, 0, 251);
        Make.write(x, 5);
        Make.send(x, 0, 4, 1);
        failsWith(x, 0, "251 252 253 254 255", 5, 2);
        Make.send(x, 1, 4, 1);
        Check.due("deliver(1)", x.deliver(1), 4);
        failsWith(x, 1, "255", 1, 1);
    }

    private static void reinjectsOnTheOthers() {
        MultipathStream x = Make.written(8, 1, 2, 3);
        Make.send(x, 0, 4, 4);
        Make.fail(x, 0);
        Refused.send(x, 0, MultipathStream.R_FAILED);
        Make.send(x, 2, 4);
        Make.send(x, 1, 4);
        Check.due("the first bytes on 2", x.segment(2, 0, MultipathStream.G_DSN), 0);
        Check.due("the next on 1", x.segment(1, 0, MultipathStream.G_DSN), 4);
        Check.due("their ssn is their new subflow's", x.segment(1, 0, MultipathStream.G_SSN), 0);
    }

    private static void recordsAreDropped() {
        MultipathStream x = Make.written(8, 1, 1, 1);
        Make.send(x, 0, 4, 4);
        Check.due("a record before", x.record(0, 1, MultipathStream.G_DSN), 4);
        Make.fail(x, 0);
        for (int ssn = -1; ssn <= 8; ssn++) {
            for (int field = 0; field < 3; field++) {
                Check.due("record(0, " + ssn + ", " + field + ")", x.record(0, ssn, field), -1);
            }
        }
    }

    private static void state() {
        for (int sf = 0; sf < 3; sf++) {
            MultipathStream x = new MultipathStream(8, 1, 1, 1);
            Make.fail(x, sf);
            for (int j = 0; j < 3; j++) {
                Check.due("state of " + j, x.subflow(j, MultipathStream.F_STATE), j == sf ? 2 : 1);
            }
            Check.due("established", x.conn(MultipathStream.C_ESTABLISHED), 2);
        }
    }

    /** Offsets 1 to n are acknowledged on subflow 0, and held: no old record brings one of them back. */
    private static void heldAndAcknowledged() {
        for (int n = 1; n <= 20; n++) {
            MultipathStream x = Make.written(1, 1, 1, 1);
            Make.send(x, 1, 1);
            for (int k = 0; k < n; k++) {
                Make.write(x, 1);
                Make.send(x, 0, 1);
                Check.due("deliver(0)", x.deliver(0), 0);
            }
            Make.write(x, 1);
            Make.send(x, 0, 1);
            Make.fail(x, 0);
            Check.due("pending", Snapshot.of(x).get("pending offsets"), "" + (n + 1));
        }
    }

    private static void answersTrue() {
        int[][] orders = {{0, 1, 2}, {0, 2, 1}, {1, 0, 2}, {1, 2, 0}, {2, 0, 1}, {2, 1, 0}};
        for (int[] order : orders) {
            MultipathStream fresh = new MultipathStream(8, 1, 2, 3);
            MultipathStream busy = Make.written(32, 1, 2, 3);
            busy.sendAll();
            for (int sf : order) {
                Check.due("fail(" + sf + ")", fresh.fail(sf), true);
                Check.due("fail(" + sf + ") with records", busy.fail(sf), true);
            }
        }
    }

    private static void channelStays() {
        MultipathStream x = Make.written(12, 1, 1, 1);
        Make.send(x, 0, 4, 4);
        x.deliver(0);
        Make.send(x, 0, 4);
        Make.fillChannel(x, 0);
        x.timeout(0);
        failsWith(x, 0, "4 5 6 7 8 9 10 11", 8, 2);
        Check.due("channel", x.subflow(0, MultipathStream.F_CHANNEL), 8);
        Check.due("sndUna", x.subflow(0, MultipathStream.F_SND_UNA), 1);
        Check.due("sndNxt", x.subflow(0, MultipathStream.F_SND_NXT), 1);
        Check.due("sndHigh", x.subflow(0, MultipathStream.F_SND_HIGH), 3);
        Check.due("rcvNxt", x.subflow(0, MultipathStream.F_RCV_NXT), 1);
    }

    private static void segmentsArriveLater() {
        MultipathStream x = Make.written(8, 1, 1, 1);
        Make.send(x, 0, 4, 4);
        Make.fail(x, 0);
        Make.send(x, 1, 4);
        Check.due("deliver(0)", x.deliver(0), 4);
        Check.due("deliver(0)", x.deliver(0), 4);
        Check.due("deliver(1) comes too late", x.deliver(1), 0);
        Check.due("discarded", x.conn(MultipathStream.C_DISCARDED), 4);
        Check.due("pending", x.conn(MultipathStream.C_PENDING), 0);
    }

    private static void lastOne() {
        int[][] orders = {{0, 1, 2}, {0, 2, 1}, {1, 0, 2}, {1, 2, 0}, {2, 0, 1}, {2, 1, 0}};
        for (int[] order : orders) {
            MultipathStream x = Make.written(4, 1, 1, 1);
            Make.send(x, order[2], 4);
            Make.fail(x, order[0], order[1]);
            failsWith(x, order[2], "0 1 2 3", 4, 0);
            for (int sf = 0; sf < 3; sf++) {
                Refused.fail(x, sf);
                Refused.send(x, sf, MultipathStream.R_FAILED);
                Refused.timeout(x, sf);
            }
            Refused.sendAll(x);
            Check.due("its segment still arrives", x.deliver(order[2]), 4);
        }
    }

    private static void changesNothingElse() {
        failsWith(Make.manySided(), 1, "4 5 6 7 12 13 14 15 20", 9, 1);
        failsWith(Make.manySided(), 2, "4 5 6 7 16 17 18 19 20", 9, 1);
    }
}
