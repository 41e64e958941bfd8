/** "State": a test for each sentence that sets a bound, after every call of many rows of calls and at both ends. */
public final class StateEdgesTest {
    // Paths (see Make.steered) to a cwnd at, just below and just above whole numbers of segments.
    private static final String[] PATHS = {
        "t", "aaatatat", "aaaataaaaaat", "", "aatata", "aaaaaaaaaaatataaa", "aataaataaa", "aaaataaaaaa",
        "ataaaaataaaaaa", "ataaaaaaaaaaa", "ataataaaaaaaaaaa", "aaaaaaaat" + "a".repeat(15),
        "aaaataaaat" + "a".repeat(16), "aataaaataaaaaat" + "a".repeat(22), "a".repeat(22),
        "aataaaaaaaaat" + "a".repeat(29), "aaaaaaaaataaat" + "a".repeat(30), "aaaaaaaatat" + "a".repeat(39),
        "aaaataat" + "a".repeat(39), "aaaaat" + "a".repeat(48), "aaaaaaaat" + "a".repeat(127), "a".repeat(128)
    };
    private static final int[] CWNDS = {
        256, 257, 511, 512, 513, 767, 768, 1023, 1024, 1279, 1280, 1535, 1536, 1791, 1792, 2047, 2048, 2303, 2304,
        2560, 4095, 4096
    };
    private static final int[] WINDOWS = {1, 1, 1, 2, 2, 2, 3, 3, 4, 4, 5, 5, 6, 6, 7, 7, 8, 8, 8, 8, 8, 8};

    public static void main(String[] args) {
        Check.sentence("The bytes written so far sit at offsets 0 .. written-1, where written <= MAX_STREAM (256).",
            StateEdgesTest::written);
        Check.sentence("Each byte is a value 0..255.", StateEdgesTest::bytes);
        Check.sentence("dataUna is the data-level acknowledgement and always equals rcvDataNxt.",
            StateEdgesTest::dataUna);
        Check.sentence("Its size, written - dataUna, never exceeds bufCap.", StateEdgesTest::sendBuffer);
        Check.sentence("Every offset d with dataUna <= d < written has a pending flag.", StateEdgesTest::pending);
        Check.sentence("Held offsets: offsets >= rcvDataNxt whose byte has arrived but is not yet delivered.",
            StateEdgesTest::held);
        Check.sentence("256 .. CWND_MAX while established", StateEdgesTest::cwnd);
        Check.sentence("rtt: 1..4, fixed by the constructor.", StateEdgesTest::rtt);
        Check.sentence("sndUna <= sndNxt <= sndHigh <= sndUna + MAX_OUTSTANDING", StateEdgesTest::counters);
        Check.sentence("for every ssn with sndUna <= ssn < sndHigh, the record (ssn, dsn, len)",
            StateEdgesTest::records);
        Check.sentence("a first-in first-out queue of at most CHANNEL_CAP segments", StateEdgesTest::channel);
        Check.sentence("The window of an established subflow is min(cwnd / 256 rounded down, MAX_OUTSTANDING) "
            + "segments.", StateEdgesTest::window);
        Check.sentence("A segment is (ssn, dsn, len) with 1 <= len <= MSS.", StateEdgesTest::segments);
        Check.sentence("sent: segments put in a channel by send, including those sent within sendAll.",
            StateEdgesTest::sent);
        Check.end();
    }

    private static int conn(MultipathStream x, int field) {
        return x.conn(field);
    }

    private static void written() {
        Rows.afterEveryCall(step -> {
            int written = conn(step.x, MultipathStream.C_WRITTEN);
            boolean there = written == 0 || step.x.offset(written - 1, MultipathStream.O_WRITTEN) != -1;
            return written >= 0 && written <= 256 && there && step.x.offset(written, MultipathStream.O_WRITTEN) == -1;
        });
    }

    private static void bytes() {
        Rows.afterEveryCall(step -> {
            int last = conn(step.x, MultipathStream.C_WRITTEN) - 1;
            int b = step.x.offset(last, MultipathStream.O_WRITTEN);
            return last < 0 || b >= 0 && b <= 255;
        });
    }

    private static void dataUna() {
        Rows.afterEveryCall(step ->
            conn(step.x, MultipathStream.C_DATA_UNA) == conn(step.x, MultipathStream.C_DELIVERED));
    }

    private static void sendBuffer() {
        Rows.afterEveryCall(step -> conn(step.x, MultipathStream.C_WRITTEN)
            - conn(step.x, MultipathStream.C_DATA_UNA) <= conn(step.x, MultipathStream.C_BUF_CAP));
    }

    /** The flags of a field stand only from dataUna to written - 1, and the field of conn counts them. */
    private static boolean flagsInTheBuffer(MultipathStream x, int offsetField, int connField) {
        int count = 0;
        for (int d = 0; d < 256; d++) {
            boolean inside = d >= conn(x, MultipathStream.C_DATA_UNA) && d < conn(x, MultipathStream.C_WRITTEN);
            int flag = x.offset(d, offsetField);
            if (flag != 0 && flag != 1 || flag == 1 && !inside) {
                return false;
            }
            count += flag;
        }
        return conn(x, connField) == count;
    }

    private static void pending() {
        Rows.afterEveryCall(step ->
            flagsInTheBuffer(step.x, MultipathStream.O_PENDING, MultipathStream.C_PENDING));
    }

    private static void held() {
        Rows.afterEveryCall(step -> {
            int front = conn(step.x, MultipathStream.C_DELIVERED);
            boolean frontHeld = step.x.offset(front, MultipathStream.O_HELD) == 1;
            return !frontHeld && flagsInTheBuffer(step.x, MultipathStream.O_HELD, MultipathStream.C_HELD);
        });
    }

    private static void cwnd() {
        Rows.onEverySubflow((x, sf) -> {
            int cwnd = x.subflow(sf, MultipathStream.F_CWND);
            boolean failed = x.subflow(sf, MultipathStream.F_STATE) == MultipathStream.S_FAILED;
            return failed ? cwnd == 0 : cwnd >= 256 && cwnd <= 4096;
        });
        for (int k = 0; k < PATHS.length; k++) {
            Check.due("cwnd", Make.steered(PATHS[k]).subflow(1, MultipathStream.F_CWND), CWNDS[k]);
        }
    }

    private static void rtt() {
        Rows.onEverySubflow((x, sf) ->
            x.subflow(sf, MultipathStream.F_RTT) >= 1 && x.subflow(sf, MultipathStream.F_RTT) <= 4);
    }

    private static void counters() {
        Rows.onEverySubflow((x, sf) -> {
            int una = x.subflow(sf, MultipathStream.F_SND_UNA);
            int nxt = x.subflow(sf, MultipathStream.F_SND_NXT);
            int high = x.subflow(sf, MultipathStream.F_SND_HIGH);
            return 0 <= una && una <= nxt && nxt <= high && high <= una + 8;
        });
        MultipathStream x = Make.steered("a".repeat(128));
        Make.write(x, 32);
        Make.send(x, 1, 4, 4, 4, 4, 4, 4, 4);
        Check.due("seven outstanding", x.subflow(1, MultipathStream.F_SND_HIGH), 128 + 7);
        Make.send(x, 1, 4);
        Check.due("eight outstanding", x.subflow(1, MultipathStream.F_SND_HIGH), 128 + 8);
        x.drop(1);
        Refused.send(x, 1, MultipathStream.R_WINDOW);
    }

    private static void records() {
        Rows.onEverySubflow((x, sf) -> {
            boolean failed = x.subflow(sf, MultipathStream.F_STATE) == MultipathStream.S_FAILED;
            int una = x.subflow(sf, MultipathStream.F_SND_UNA);
            int high = x.subflow(sf, MultipathStream.F_SND_HIGH);
            boolean right = x.record(sf, una - 1, MultipathStream.G_SSN) == -1
                && x.record(sf, high, MultipathStream.G_SSN) == -1;
            for (int ssn = una; ssn < high; ssn++) {
                int dsn = x.record(sf, ssn, MultipathStream.G_DSN);
                int len = x.record(sf, ssn, MultipathStream.G_LEN);
                right &= failed ? dsn == -1 && len == -1 : dsn >= 0 && len >= 1 && dsn + len <= 256;
            }
            return right;
        });
    }

    private static void channel() {
        Rows.onEverySubflow((x, sf) -> {
            int size = x.subflow(sf, MultipathStream.F_CHANNEL);
            boolean lastIsThere = size == 0 || x.segment(sf, size - 1, MultipathStream.G_SSN) >= 0;
            return size >= 0 && size <= 8 && lastIsThere && x.segment(sf, size, MultipathStream.G_SSN) == -1;
        });
        MultipathStream x = Make.steered("a".repeat(30));
        Make.write(x, 32);
        Make.send(x, 1, 4, 4, 4, 4, 4, 4, 4, 4);
        for (int pos = 0; pos < 8; pos++) {
            Check.due("eight in the order sent", x.segment(1, pos, MultipathStream.G_SSN), 30 + pos);
        }
        for (int k = 0; k < 8; k++) {
            Check.due("the first in is the first out", x.segment(1, 0, MultipathStream.G_SSN), 30 + k);
            x.deliver(1);
        }
    }

    private static void window() {
        for (int k = 0; k < PATHS.length; k++) {
            MultipathStream x = Make.steered(PATHS[k]);
            Make.write(x, 31);
            int sends = 0;
            // A copy left by the path must not fill the channel before the window is full.
            x.drop(1);
            while (sends < 20 && x.send(1) > 0) {
                sends++;
            }
            Check.due("sends with cwnd " + CWNDS[k], sends, WINDOWS[k]);
            x.drop(1);
            Refused.send(x, 1, MultipathStream.R_WINDOW);
        }
    }

    private static void segments() {
        Rows.onEverySubflow((x, sf) -> {
            boolean right = true;
            for (int pos = 0; pos < x.subflow(sf, MultipathStream.F_CHANNEL); pos++) {
                int ssn = x.segment(sf, pos, MultipathStream.G_SSN);
                int dsn = x.segment(sf, pos, MultipathStream.G_DSN);
                int len = x.segment(sf, pos, MultipathStream.G_LEN);
                right &= ssn >= 0 && ssn < x.subflow(sf, MultipathStream.F_SND_HIGH);
                right &= len >= 1 && len <= 4 && dsn >= 0 && dsn + len <= conn(x, MultipathStream.C_WRITTEN);
            }
            return right;
        });
    }

    private static void sent() {
        Rows.afterEveryCall(step -> {
            int added = step.calls.call == Calls.SEND_ALL ? step.answer : 0;
            if (step.calls.call == Calls.SEND && step.answer > 0) {
                added = 1;
            }
            return conn(step.x, MultipathStream.C_SENT) == step.sentBefore + added;
        });
    }
}
