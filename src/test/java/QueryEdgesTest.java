import java.util.Map;

/** Promises 10 to 14, the queries: a test for each sentence that names a boundary case. */
public final class QueryEdgesTest {
    // Wrong fields, offsets and positions: far ones, and such that a mask or a product falls back into a range.
    private static final int[] FAR = {
        Integer.MIN_VALUE, Integer.MIN_VALUE + 1, Integer.MIN_VALUE + 8, -65536, -257, -256, -255, -8, -2, -1,
        257, 264, 65536, 1 << 28, 1 << 29, 1 << 30, Integer.MAX_VALUE - 7, Integer.MAX_VALUE - 1, Integer.MAX_VALUE
    };

    public static void main(String[] args) {
        subflow();
        segment();
        record();
        conn();
        offset();
        Check.end();
    }

    private static void subflow() {
        Check.sentence("It answers -1 if sf is not 0..2 (subflow)", QueryEdgesTest::subflowOfNone);
        Check.sentence("or field is not one of the F_ constants", QueryEdgesTest::subflowField);
        Check.sentence("F_STATE: the state. (the first field)", QueryEdgesTest::subflowState);
        Check.sentence("F_CWND: cwnd, or 0 if failed.", QueryEdgesTest::subflowCwnd);
        Check.sentence("F_RTT: rtt.", QueryEdgesTest::subflowRtt);
        Check.sentence("F_SND_UNA, F_SND_NXT, F_SND_HIGH, F_RCV_NXT: those counters.", QueryEdgesTest::subflowCounters);
        Check.sentence("F_CHANNEL: the number of segments in the channel. (the last field)",
            QueryEdgesTest::subflowChannel);
        Check.sentence("It changes nothing. (subflow)", QueryEdgesTest::subflowChangesNothing);
    }

    private static void segment() {
        Check.sentence("It answers -1 if: sf is not 0..2 (segment)", QueryEdgesTest::segmentOfNone);
        Check.sentence("pos is not 0 .. length-1 of that channel", QueryEdgesTest::segmentPos);
        Check.sentence("field is not a G_ constant (segment)", QueryEdgesTest::segmentField);
        Check.sentence("field G_SSN, G_DSN or G_LEN of the segment at position pos (0 = head)",
            QueryEdgesTest::segmentValues);
        Check.sentence("It changes nothing. (segment)", QueryEdgesTest::segmentChangesNothing);
    }

    private static void record() {
        Check.sentence("It answers -1 if: sf is not 0..2 (record)", QueryEdgesTest::recordOfNone);
        Check.sentence("the subflow is failed", QueryEdgesTest::recordOfFailed);
        Check.sentence("ssn is not in sndUna .. sndHigh-1", QueryEdgesTest::recordSsn);
        Check.sentence("ssn is not in sndUna .. sndHigh-1 (none at all)", QueryEdgesTest::recordWhereNoneIs);
        Check.sentence("field is not a G_ constant (record)", QueryEdgesTest::recordField);
        Check.sentence("field G_SSN, G_DSN or G_LEN of the record with that ssn on subflow sf",
            QueryEdgesTest::recordValues);
        Check.sentence("It changes nothing. (record)", QueryEdgesTest::recordChangesNothing);
    }

    private static void conn() {
        Check.sentence("It answers -1 if field is not a C_ constant.", QueryEdgesTest::connField);
        Check.sentence("C_WRITTEN: written. (the first field)", QueryEdgesTest::connWritten);
        Check.sentence("C_DATA_UNA: dataUna. C_DELIVERED: rcvDataNxt.", QueryEdgesTest::connDelivered);
        Check.sentence("C_PENDING: the number of pending offsets in dataUna .. written-1.",
            QueryEdgesTest::connPending);
        Check.sentence("C_HELD: the number of held offsets.", QueryEdgesTest::connHeld);
        Check.sentence("C_SENT: sent. C_DISCARDED: discarded.", QueryEdgesTest::connCounters);
        Check.sentence("C_BUF_CAP: bufCap.", QueryEdgesTest::connBufCap);
        Check.sentence("C_ESTABLISHED: the number of established subflows. (the last field)",
            QueryEdgesTest::connEstablished);
        Check.sentence("It changes nothing. (conn)", QueryEdgesTest::connChangesNothing);
    }

    private static void offset() {
        Check.sentence("It answers -1 if dsn is not 0..255", QueryEdgesTest::offsetOfNone);
        Check.sentence("or field is not an O_ constant", QueryEdgesTest::offsetField);
        Check.sentence("O_WRITTEN: the written byte, or -1 if dsn >= written.", QueryEdgesTest::offsetWritten);
        Check.sentence("O_DELIVERED: the delivered byte, or -1 if dsn >= rcvDataNxt.",
            QueryEdgesTest::offsetDelivered);
        Check.sentence("O_PENDING: 1 if dataUna <= dsn < written and dsn is pending, else 0.",
            QueryEdgesTest::offsetPending);
        Check.sentence("O_HELD: 1 if dsn is held, else 0.", QueryEdgesTest::offsetHeld);
        Check.sentence("It changes nothing. (offset)", QueryEdgesTest::offsetChangesNothing);
    }

    private static void subflowOfNone() {
        MultipathStream x = Make.manySided();
        for (int sf : Make.NO_SUBFLOWS) {
            for (int field = -1; field <= 8; field++) {
                Check.due("subflow(" + sf + ", " + field + ")", x.subflow(sf, field), -1);
            }
        }
    }

    private static void subflowField() {
        MultipathStream x = Make.manySided();
        for (int sf = 0; sf < 3; sf++) {
            for (int field : FAR) {
                Check.due("subflow(" + sf + ", " + field + ")", x.subflow(sf, field), -1);
            }
            for (int field = 8; field <= 40; field++) {
                Check.due("subflow(" + sf + ", " + field + ")", x.subflow(sf, field), -1);
            }
        }
    }

    private static void subflowState() {
        MultipathStream x = new MultipathStream(8, 1, 2, 3);
        for (int sf = 0; sf < 3; sf++) {
            Check.due("subflow(" + sf + ", 0)", x.subflow(sf, 0), 1);
            Make.fail(x, sf);
            Check.due("subflow(" + sf + ", 0) when failed", x.subflow(sf, 0), 2);
        }
    }

    private static void subflowCwnd() {
        for (int sf = 0; sf < 3; sf++) {
            MultipathStream x = new MultipathStream(8, 1, 2, 3);
            Check.due("subflow(" + sf + ", 1)", x.subflow(sf, 1), 512);
            Make.fail(x, sf);
            Check.due("subflow(" + sf + ", 1) when failed", x.subflow(sf, 1), 0);
        }
        MultipathStream late = Make.written(4, 1, 1, 1);
        Make.send(late, 0, 4);
        Make.fail(late, 0);
        late.deliver(0);
        Check.due("0 after a late arrival too", late.subflow(0, 1), 0);
        Check.due("the least", Make.steered("t").subflow(1, 1), 256);
        Check.due("the greatest", Make.steered("a".repeat(128)).subflow(1, 1), 4096);
    }

    private static void subflowRtt() {
        for (int rtt = 1; rtt <= 4; rtt++) {
            int other = 5 - rtt;
            MultipathStream x = new MultipathStream(8, rtt, other, rtt);
            Check.due("subflow(0, 2)", x.subflow(0, 2), rtt);
            Check.due("subflow(1, 2)", x.subflow(1, 2), other);
            Make.fail(x, 2);
            Check.due("subflow(2, 2) when failed", x.subflow(2, 2), rtt);
        }
    }

    private static void subflowCounters() {
        MultipathStream x = Make.manySided();
        int[][] due = {{1, 2, 2, 1}, {1, 2, 2, 1}, {0, 0, 1, 0}};
        for (int sf = 0; sf < 3; sf++) {
            for (int k = 0; k < 4; k++) {
                Check.due("subflow(" + sf + ", " + (3 + k) + ")", x.subflow(sf, 3 + k), due[sf][k]);
            }
        }
        MultipathStream whole = Make.wholeStream();
        for (int field = 3; field <= 6; field++) {
            Check.due("subflow(0, " + field + ")", whole.subflow(0, field), 256);
            Check.due("subflow(1, " + field + ")", whole.subflow(1, field), 0);
        }
    }

    private static void subflowChannel() {
        for (int sf = 0; sf < 3; sf++) {
            MultipathStream x = Make.written(4, 1, 1, 1);
            Check.due("empty", x.subflow(sf, 7), 0);
            Make.send(x, sf, 4);
            for (int size = 1; size <= 8; size++) {
                Check.due("subflow(" + sf + ", 7)", x.subflow(sf, 7), size);
                x.duplicate(sf);
            }
            Check.due("full", x.subflow(sf, 7), 8);
        }
    }

    private static void subflowChangesNothing() {
        MultipathStream x = Make.manySided();
        Map<String, String> before = Snapshot.of(x);
        for (int sf = -2; sf <= 4; sf++) {
            for (int field = -2; field <= 9; field++) {
                x.subflow(sf, field);
            }
        }
        Check.unchanged("subflow", before, x);
    }

    private static void segmentOfNone() {
        MultipathStream x = Make.manySided();
        for (int sf : Make.NO_SUBFLOWS) {
            for (int pos = -1; pos <= 8; pos++) {
                for (int field = -1; field <= 3; field++) {
                    Check.due("segment(" + sf + ", " + pos + ", " + field + ")", x.segment(sf, pos, field), -1);
                }
            }
        }
    }

    /** An object whose channel of sf holds n segments, while the channels beside it are full. */
    private static MultipathStream withSegments(int sf, int n) {
        MultipathStream x = Make.written(12, 1, 1, 1);
        for (int j = 0; j < 3; j++) {
            Make.send(x, j, 4);
            Make.fillChannel(x, j);
        }
        for (int size = 8; size > n; size--) {
            x.drop(sf);
        }
        return x;
    }

    private static void segmentPos() {
        for (int sf = 0; sf < 3; sf++) {
            for (int n = 0; n <= 8; n++) {
                MultipathStream x = withSegments(sf, n);
                for (int pos = -40; pos <= 40; pos++) {
                    boolean inside = pos >= 0 && pos < n;
                    Check.due("segment(" + sf + ", " + pos + ", 2) of " + n, x.segment(sf, pos, 2), inside ? 4 : -1);
                    Check.due("segment(" + sf + ", " + pos + ", 0) of " + n, x.segment(sf, pos, 0), inside ? 0 : -1);
                }
                for (int pos : FAR) {
                    Check.due("segment(" + sf + ", " + pos + ", 1) of " + n, x.segment(sf, pos, 1), -1);
                }
            }
        }
    }

    private static void segmentField() {
        MultipathStream x = Make.manySided();
        for (int sf = 0; sf < 3; sf++) {
            for (int field : FAR) {
                Check.due("segment(" + sf + ", 0, " + field + ")", x.segment(sf, 0, field), -1);
            }
            for (int field = 3; field <= 20; field++) {
                Check.due("segment(" + sf + ", 0, " + field + ")", x.segment(sf, 0, field), -1);
            }
        }
    }

    private static void segmentValues() {
        MultipathStream x = new MultipathStream(32, 1, 1, 1);
        int dsn = 0;
        for (int len = 1; len <= 2; len++) {
            Make.write(x, len);
            Make.send(x, 2, len);
            Check.due("ssn", x.segment(2, len - 1, 0), len - 1);
            Check.due("dsn", x.segment(2, len - 1, 1), dsn);
            Check.due("len", x.segment(2, len - 1, 2), len);
            dsn += len;
        }
        x.drop(2);
        Check.due("the new head's ssn", x.segment(2, 0, 0), 1);
        Check.due("the new head's dsn", x.segment(2, 0, 1), 1);
        Check.due("the new head's len", x.segment(2, 0, 2), 2);
        MultipathStream end = new MultipathStream(8, 1, 1, 1);
        Make.carry(end, 0, 255);
        Make.write(end, 1);
        Make.send(end, 0, 1);
        Make.fail(end, 0);
        Check.due("the greatest ssn, in a failed path", end.segment(0, 0, 0), 255);
        Check.due("the greatest dsn, in a failed path", end.segment(0, 0, 1), 255);
        Check.due("len, in a failed path", end.segment(0, 0, 2), 1);
    }

    private static void segmentChangesNothing() {
        MultipathStream x = Make.manySided();
        Map<String, String> before = Snapshot.of(x);
        for (int sf = -1; sf <= 3; sf++) {
            for (int pos = -1; pos <= 8; pos++) {
                for (int field = -1; field <= 3; field++) {
                    x.segment(sf, pos, field);
                }
            }
        }
        Check.unchanged("segment", before, x);
    }

    private static void recordOfNone() {
        MultipathStream x = Make.manySided();
        for (int sf : Make.NO_SUBFLOWS) {
            for (int ssn = -1; ssn <= 8; ssn++) {
                for (int field = -1; field <= 3; field++) {
                    Check.due("record(" + sf + ", " + ssn + ", " + field + ")", x.record(sf, ssn, field), -1);
                }
            }
        }
    }

    private static void recordOfFailed() {
        for (int sf = 0; sf < 3; sf++) {
            MultipathStream x = Make.written(32, 1, 1, 1);
            x.sendAll();
            Check.due("before", x.record(sf, 0, 2), 4);
            Make.fail(x, sf);
            for (int ssn = -1; ssn <= 9; ssn++) {
                for (int field = -1; field <= 3; field++) {
                    Check.due("record(" + sf + ", " + ssn + ", " + field + ")", x.record(sf, ssn, field), -1);
                }
            }
        }
    }

    private static void recordSsn() {
        for (int outstanding = 1; outstanding <= 8; outstanding++) {
            MultipathStream x = Make.steered("a".repeat(30));
            Make.write(x, 32);
            for (int k = 0; k < outstanding; k++) {
                Make.send(x, 1, 4);
            }
            for (int ssn = -20; ssn <= 80; ssn++) {
                boolean inside = ssn >= 30 && ssn < 30 + outstanding;
                Check.due("record(1, " + ssn + ", 0)", x.record(1, ssn, 0), inside ? ssn : -1);
                Check.due("record(1, " + ssn + ", 1)", x.record(1, ssn, 1), inside ? 30 + 4 * (ssn - 30) : -1);
                Check.due("record(1, " + ssn + ", 2)", x.record(1, ssn, 2), inside ? 4 : -1);
            }
            for (int ssn : FAR) {
                Check.due("record(1, " + ssn + ", 0)", x.record(1, ssn, 0), -1);
            }
            // Going back moves sndNxt alone: the records reach up to sndHigh all the same.
            x.timeout(1);
            Check.due("the last record", x.record(1, 29 + outstanding, 0), 29 + outstanding);
        }
    }

    private static void recordWhereNoneIs() {
        MultipathStream fresh = new MultipathStream(8, 1, 1, 1);
        MultipathStream whole = Make.wholeStream();
        for (int sf = 0; sf < 3; sf++) {
            for (int ssn = -9; ssn <= 270; ssn++) {
                Check.due("record(" + sf + ", " + ssn + ", 0) of the fresh one", fresh.record(sf, ssn, 0), -1);
                Check.due("record(" + sf + ", " + ssn + ", 0) of the whole one", whole.record(sf, ssn, 0), -1);
            }
        }
    }

    private static void recordField() {
        MultipathStream x = Make.written(24, 1, 1, 1);
        x.sendAll();
        for (int sf = 0; sf < 3; sf++) {
            for (int field : FAR) {
                Check.due("record(" + sf + ", 0, " + field + ")", x.record(sf, 0, field), -1);
            }
            for (int field = 3; field <= 20; field++) {
                Check.due("record(" + sf + ", 1, " + field + ")", x.record(sf, 1, field), -1);
            }
        }
    }

    private static void recordValues() {
        MultipathStream x = new MultipathStream(8, 1, 1, 1);
        for (int ssn = 0; ssn < 256; ssn++) {
            Make.write(x, 1);
            Make.send(x, 0, 1);
            Check.due("ssn", x.record(0, ssn, 0), ssn);
            Check.due("dsn", x.record(0, ssn, 1), ssn);
            Check.due("len", x.record(0, ssn, 2), 1);
            x.deliver(0);
            Check.due("the acknowledged one", x.record(0, ssn, 0), -1);
        }
    }

    private static void recordChangesNothing() {
        MultipathStream x = Make.manySided();
        Map<String, String> before = Snapshot.of(x);
        for (int sf = -1; sf <= 3; sf++) {
            for (int ssn = -1; ssn <= 8; ssn++) {
                for (int field = -1; field <= 3; field++) {
                    x.record(sf, ssn, field);
                }
            }
        }
        Check.unchanged("record", before, x);
    }

    private static void connField() {
        MultipathStream x = Make.manySided();
        for (int field : FAR) {
            Check.due("conn(" + field + ")", x.conn(field), -1);
        }
        for (int field = 9; field <= 40; field++) {
            Check.due("conn(" + field + ")", x.conn(field), -1);
        }
    }

    private static void connWritten() {
        Check.due("the least", new MultipathStream(8, 1, 1, 1).conn(0), 0);
        Check.due("some", Make.manySided().conn(0), 21);
        Check.due("the greatest", Make.wholeStream().conn(0), 256);
    }

    private static void connDelivered() {
        for (int field = 1; field <= 2; field++) {
            Check.due("the least", Make.written(32, 1, 1, 1).conn(field), 0);
            Check.due("some", Make.manySided().conn(field), 4);
            Check.due("the greatest", Make.wholeStream().conn(field), 256);
        }
    }

    private static void connPending() {
        Check.due("none", new MultipathStream(8, 1, 1, 1).conn(3), 0);
        Check.due("some", Make.manySided().conn(3), 5);
        Check.due("none of a whole stream", Make.wholeStream().conn(3), 0);
        MultipathStream x = new MultipathStream(32, 1, 1, 1);
        Make.carry(x, 0, 224);
        Make.write(x, 32);
        Check.due("the most, at the end of the stream", x.conn(3), 32);
        MultipathStream late = Make.written(8, 1, 1, 1);
        Make.send(late, 0, 4);
        Make.fail(late, 0);
        late.deliver(0);
        Check.due("what is delivered does not count", late.conn(3), 4);
    }

    private static void connHeld() {
        Check.due("none", new MultipathStream(8, 1, 1, 1).conn(4), 0);
        Check.due("some", Make.manySided().conn(4), 4);
        MultipathStream x = new MultipathStream(32, 1, 1, 1);
        Make.carry(x, 0, 224);
        Make.write(x, 1);
        Make.send(x, 0, 1);
        Make.write(x, 31);
        for (int k = 0; k < 8 && x.send(1) > 0; k++) {
            x.deliver(1);
        }
        Check.due("the most, at the end of the stream", x.conn(4), 31);
        x.deliver(0);
        Check.due("delivered ones are held no more", x.conn(4), 0);
    }

    private static void connCounters() {
        MultipathStream x = Make.written(4, 1, 1, 1);
        Check.due("none sent", x.conn(5), 0);
        Make.send(x, 0, 4);
        Make.duplicate(x, 0, 7);
        Check.due("copies of the channel are not sent", x.conn(5), 1);
        Make.fail(x, 0);
        Make.send(x, 1, 4);
        x.deliver(0);
        Check.due("none discarded", x.conn(6), 0);
        x.deliver(1);
        Check.due("discarded", x.conn(6), 4);
        Check.due("sent", x.conn(5), 2);
        Check.due("sent of a whole stream", Make.wholeStream().conn(5), 256);
    }

    private static void connBufCap() {
        int[][] rows = {{7, 8}, {8, 8}, {9, 9}, {31, 31}, {32, 32}, {33, 32}};
        for (int[] row : rows) {
            MultipathStream x = new MultipathStream(row[0], 1, 1, 1);
            Check.due("bufCap of " + row[0], x.conn(7), row[1]);
            Make.carry(x, 0, 40);
            Make.fail(x, 0);
            Check.due("it stays", x.conn(7), row[1]);
        }
    }

    private static void connEstablished() {
        MultipathStream x = new MultipathStream(8, 1, 1, 1);
        for (int left = 3; left > 0; left--) {
            Check.due("established", x.conn(8), left);
            Make.fail(x, left - 1);
        }
        Check.due("none", x.conn(8), 0);
    }

    private static void connChangesNothing() {
        MultipathStream x = Make.manySided();
        Map<String, String> before = Snapshot.of(x);
        for (int field = -2; field <= 10; field++) {
            x.conn(field);
        }
        Check.unchanged("conn", before, x);
    }

    private static void offsetOfNone() {
        MultipathStream x = Make.wholeStream();
        for (int dsn : FAR) {
            for (int field = -1; field <= 4; field++) {
                Check.due("offset(" + dsn + ", " + field + ")", x.offset(dsn, field), -1);
            }
        }
        for (int field = 0; field <= 3; field++) {
            Check.due("offset(-1, " + field + ")", x.offset(-1, field), -1);
            Check.due("offset(256, " + field + ")", x.offset(256, field), -1);
            Check.holds("offset(0, " + field + ") is there", x.offset(0, field) != -1);
            Check.holds("offset(255, " + field + ") is there", x.offset(255, field) != -1);
        }
    }

    private static void offsetField() {
        MultipathStream x = Make.manySided();
        int[] offsets = {0, 4, 8, 20, 21, 255};
        for (int dsn : offsets) {
            for (int field : FAR) {
                Check.due("offset(" + dsn + ", " + field + ")", x.offset(dsn, field), -1);
            }
            for (int field = 4; field <= 40; field++) {
                Check.due("offset(" + dsn + ", " + field + ")", x.offset(dsn, field), -1);
            }
        }
    }

    private static void offsetWritten() {
        int[] lengths = {0, 1, 8, 31, 32};
        for (int n : lengths) {
            MultipathStream x = Make.written(n, 1, 1, 1);
            for (int dsn = 0; dsn < 256; dsn++) {
                Check.due("offset(" + dsn + ", 0) of " + n, x.offset(dsn, 0), dsn < n ? dsn + 10 : -1);
            }
        }
        MultipathStream whole = Make.wholeStream();
        for (int dsn = 0; dsn < 256; dsn++) {
            Check.due("offset(" + dsn + ", 0) of 256", whole.offset(dsn, 0), (dsn + 10) % 256);
        }
    }

    private static void offsetDelivered() {
        int[] lengths = {0, 1, 8, 255, 256};
        for (int n : lengths) {
            MultipathStream x = new MultipathStream(32, 1, 1, 1);
            Make.carry(x, 0, n);
            Make.write(x, Math.min(32, 256 - n));
            for (int dsn = 0; dsn < 256; dsn++) {
                Check.due("offset(" + dsn + ", 1) of " + n, x.offset(dsn, 1), dsn < n ? (dsn + 10) % 256 : -1);
            }
        }
        MultipathStream held = Make.manySided();
        Check.due("a held byte is not delivered", held.offset(8, 1), -1);
    }

    private static void offsetPending() {
        MultipathStream x = Make.manySided();
        for (int dsn = 0; dsn < 256; dsn++) {
            boolean pending = dsn >= 4 && dsn <= 7 || dsn == 20;
            Check.due("offset(" + dsn + ", 2)", x.offset(dsn, 2), pending ? 1 : 0);
        }
        MultipathStream end = new MultipathStream(8, 1, 1, 1);
        Make.carry(end, 0, 248);
        Make.write(end, 8);
        for (int dsn = 0; dsn < 256; dsn++) {
            Check.due("offset(" + dsn + ", 2)", end.offset(dsn, 2), dsn >= 248 ? 1 : 0);
        }
        MultipathStream late = Make.written(8, 1, 1, 1);
        Make.send(late, 0, 4);
        Make.fail(late, 0);
        late.deliver(0);
        for (int dsn = 0; dsn < 9; dsn++) {
            Check.due("offset(" + dsn + ", 2)", late.offset(dsn, 2), dsn >= 4 && dsn < 8 ? 1 : 0);
        }
    }

    private static void offsetHeld() {
        MultipathStream x = Make.manySided();
        for (int dsn = 0; dsn < 256; dsn++) {
            Check.due("offset(" + dsn + ", 3)", x.offset(dsn, 3), dsn >= 8 && dsn <= 11 ? 1 : 0);
        }
        MultipathStream end = new MultipathStream(8, 1, 1, 1);
        Make.carry(end, 0, 248);
        Make.write(end, 8);
        Make.send(end, 1, 4);
        Make.send(end, 0, 4);
        end.deliver(0);
        for (int dsn = 0; dsn < 256; dsn++) {
            Check.due("offset(" + dsn + ", 3)", end.offset(dsn, 3), dsn >= 252 ? 1 : 0);
        }
        end.deliver(1);
        for (int dsn = 0; dsn < 256; dsn++) {
            Check.due("offset(" + dsn + ", 3) once delivered", end.offset(dsn, 3), 0);
        }
    }

    private static void offsetChangesNothing() {
        MultipathStream x = Make.manySided();
        Map<String, String> before = Snapshot.of(x);
        for (int dsn = -2; dsn <= 257; dsn++) {
            for (int field = -2; field <= 5; field++) {
                x.offset(dsn, field);
            }
        }
        Check.unchanged("offset", before, x);
    }
}
