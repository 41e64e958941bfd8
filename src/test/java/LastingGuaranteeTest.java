/** The lasting guarantee, and the bounds that "State" sets, after every call of many rows of calls. */
public final class LastingGuaranteeTest {
    private static final int ROWS = 400;
    private static final int CALLS = 1200;

    private static final int[] written = new int[MultipathStream.MAX_STREAM];
    private static int length = 0;
    private static int delivered = 0;
    private static int streamsWhole = 0;

    public static void main(String[] args) {
        for (int number = 0; number < ROWS && Check.allDue(); number++) {
            row(number);
        }
        Check.holds("some rows carry the whole stream", streamsWhole > 10);
        Check.end();
    }

    private static void row(int number) {
        Calls calls = new Calls(number);
        MultipathStream x = calls.fresh(new int[4]);
        length = 0;
        delivered = 0;
        for (int k = 0; k < CALLS && Check.allDue(); k++) {
            calls.next();
            int answer = calls.answer(x);
            String where = "row " + number + ", call " + k + ", " + calls.text();
            if (calls.call == Calls.WRITE && answer == 1) {
                written[length] = calls.argument & 255;
                length++;
            }
            int raise = calls.call == Calls.DELIVER && answer > 0 ? answer : 0;
            Check.due(where + ": delivered", x.conn(MultipathStream.C_DELIVERED), delivered + raise);
            delivered += raise;
            guaranteeHolds(where, x);
            boundsHold(where, x);
        }
        if (delivered == MultipathStream.MAX_STREAM) {
            streamsWhole++;
        }
    }

    private static void guaranteeHolds(String where, MultipathStream x) {
        Check.due(where + ": written", x.conn(MultipathStream.C_WRITTEN), length);
        Check.holds(where + ": delivered <= written", delivered <= length);
        boolean same = true;
        for (int d = 0; d < MultipathStream.MAX_STREAM; d++) {
            same &= x.offset(d, MultipathStream.O_WRITTEN) == (d < length ? written[d] : -1);
            same &= x.offset(d, MultipathStream.O_DELIVERED) == (d < delivered ? written[d] : -1);
        }
        Check.holds(where + ": the bytes", same);
    }

    private static void boundsHold(String where, MultipathStream x) {
        Check.due(where + ": dataUna", x.conn(MultipathStream.C_DATA_UNA), delivered);
        Check.holds(where + ": the send buffer", length - delivered <= x.conn(MultipathStream.C_BUF_CAP));
        for (int sf = 0; sf < MultipathStream.SUBFLOWS; sf++) {
            int una = x.subflow(sf, MultipathStream.F_SND_UNA);
            int nxt = x.subflow(sf, MultipathStream.F_SND_NXT);
            int high = x.subflow(sf, MultipathStream.F_SND_HIGH);
            int cwnd = x.subflow(sf, MultipathStream.F_CWND);
            int channel = x.subflow(sf, MultipathStream.F_CHANNEL);
            boolean failed = x.subflow(sf, MultipathStream.F_STATE) == MultipathStream.S_FAILED;
            Check.holds(where + ": the counters", una <= nxt && nxt <= high && high <= una + 8);
            Check.holds(where + ": cwnd", failed ? cwnd == 0 : cwnd >= 256 && cwnd <= 4096);
            Check.holds(where + ": the channel", channel >= 0 && channel <= 8);
            for (int pos = 0; pos < channel; pos++) {
                int dsn = x.segment(sf, pos, MultipathStream.G_DSN);
                int len = x.segment(sf, pos, MultipathStream.G_LEN);
                Check.holds(where + ": a segment", len >= 1 && len <= 4 && dsn >= 0 && dsn + len <= length);
            }
        }
        for (int d = 0; d < MultipathStream.MAX_STREAM; d++) {
            boolean outside = d < delivered || d >= length;
            if (outside && (x.offset(d, MultipathStream.O_PENDING) != 0 || x.offset(d, MultipathStream.O_HELD) != 0)) {
                Check.holds(where + ": offset " + d + " has no flag", false);
            }
        }
    }
}
