/** One byte stream carried over three subflows and put together again at the receiver. */
public final class MultipathStream {
    public static final int SUBFLOWS = 3;
    public static final int MAX_STREAM = 256;
    public static final int MSS = 4;
    public static final int CHANNEL_CAP = 8;
    public static final int MAX_OUTSTANDING = 8;
    public static final int CWND_INIT = 512;
    public static final int CWND_MAX = 4096;
    public static final int CWND_MIN = 256;
    public static final int S_ESTABLISHED = 1;
    public static final int S_FAILED = 2;
    public static final int R_BAD_SUBFLOW = -1;
    public static final int R_FAILED = -2;
    public static final int R_WINDOW = -3;
    public static final int R_CHANNEL_FULL = -4;
    public static final int R_NOTHING = -5;
    public static final int R_EMPTY = -6;
    public static final int F_STATE = 0;
    public static final int F_CWND = 1;
    public static final int F_RTT = 2;
    public static final int F_SND_UNA = 3;
    public static final int F_SND_NXT = 4;
    public static final int F_SND_HIGH = 5;
    public static final int F_RCV_NXT = 6;
    public static final int F_CHANNEL = 7;
    public static final int G_SSN = 0;
    public static final int G_DSN = 1;
    public static final int G_LEN = 2;
    public static final int C_WRITTEN = 0;
    public static final int C_DATA_UNA = 1;
    public static final int C_DELIVERED = 2;
    public static final int C_PENDING = 3;
    public static final int C_HELD = 4;
    public static final int C_SENT = 5;
    public static final int C_DISCARDED = 6;
    public static final int C_BUF_CAP = 7;
    public static final int C_ESTABLISHED = 8;
    public static final int O_WRITTEN = 0;
    public static final int O_DELIVERED = 1;
    public static final int O_PENDING = 2;
    public static final int O_HELD = 3;

    private static final int BUF_CAP_MIN = 8;
    private static final int BUF_CAP_MAX = 32;
    private static final int RTT_MIN = 1;
    private static final int RTT_MAX = 4;
    private static final int CWND_PER_SEGMENT = 256;
    private static final int CHANNEL_SLOTS = SUBFLOWS * CHANNEL_CAP;
    private static final int RECORD_SLOTS = SUBFLOWS * MAX_OUTSTANDING;
    private static final int MAX_SENDS = SUBFLOWS * MAX_OUTSTANDING;
    private static final int UNKNOWN = -1;
    private static final int ACCEPTED = 0;
    private static final int NO_SUBFLOW = -1;

    private final int bufCap;

    // A written byte never changes, so the receiver needs no copy of its own: an offset's byte
    // is the same on both sides, and only how far the receiver has got must be kept.
    private final int[] stream = new int[MAX_STREAM];
    private int written = 0;

    // dataUna equals rcvDataNxt after every call, so this one field stands for both.
    private int rcvDataNxt = 0;

    // Both flags are cleared when an offset is delivered, so they never stand below rcvDataNxt.
    private final boolean[] pending = new boolean[MAX_STREAM];
    private final boolean[] held = new boolean[MAX_STREAM];

    private int sent = 0;
    private int discarded = 0;

    private final int[] state = new int[SUBFLOWS];
    private final int[] cwnd = new int[SUBFLOWS];
    private final int[] rtt = new int[SUBFLOWS];
    private final int[] sndUna = new int[SUBFLOWS];
    private final int[] sndNxt = new int[SUBFLOWS];
    private final int[] sndHigh = new int[SUBFLOWS];
    private final int[] rcvNxt = new int[SUBFLOWS];

    // Subflow sf has the CHANNEL_CAP slots from sf * CHANNEL_CAP on, the head always in the first.
    private final int[] channelSize = new int[SUBFLOWS];
    private final int[] channelSsn = new int[CHANNEL_SLOTS];
    private final int[] channelDsn = new int[CHANNEL_SLOTS];
    private final int[] channelLen = new int[CHANNEL_SLOTS];

    // At most MAX_OUTSTANDING records live at once on a subflow, so the ssn modulo that number
    // tells them apart and dropping one is only a matter of moving sndUna.
    private final int[] recordDsn = new int[RECORD_SLOTS];
    private final int[] recordLen = new int[RECORD_SLOTS];

    public MultipathStream(int bufCap, int rtt0, int rtt1, int rtt2) {
        this.bufCap = clamp(bufCap, BUF_CAP_MIN, BUF_CAP_MAX);
        rtt[0] = clamp(rtt0, RTT_MIN, RTT_MAX);
        rtt[1] = clamp(rtt1, RTT_MIN, RTT_MAX);
        rtt[2] = clamp(rtt2, RTT_MIN, RTT_MAX);
        for (int sf = 0; sf < SUBFLOWS; sf++) {
            state[sf] = S_ESTABLISHED;
            cwnd[sf] = CWND_INIT;
        }
    }

    public boolean write(int b) {
        if (written == MAX_STREAM || written - rcvDataNxt == bufCap) {
            return false;
        }
        stream[written] = b & 255;
        pending[written] = true;
        written++;
        return true;
    }

    public int send(int sf) {
        int refusal = refusalOfSend(sf);
        if (refusal != ACCEPTED) {
            return refusal;
        }
        return sendNext(sf);
    }

    public int sendAll() {
        // Every send takes one place of a window of at most MAX_OUTSTANDING, and no place comes
        // free here, so the loop always ends by finding no subflow or by the last place.
        for (int count = 0; count < MAX_SENDS; count++) {
            int sf = fastestEligible();
            if (sf == NO_SUBFLOW) {
                return count;
            }
            sendNext(sf);
        }
        return MAX_SENDS;
    }

    public int deliver(int sf) {
        if (!isSubflow(sf)) {
            return R_BAD_SUBFLOW;
        }
        if (channelSize[sf] == 0) {
            return R_EMPTY;
        }
        int head = sf * CHANNEL_CAP;
        int ssn = channelSsn[head];
        int dsn = channelDsn[head];
        int len = channelLen[head];
        removeHead(sf);
        if (ssn != rcvNxt[sf]) {
            return 0;
        }
        rcvNxt[sf]++;
        hold(dsn, len);
        int count = deliverPrefix();
        if (isEstablished(sf)) {
            acknowledge(sf);
        }
        return count;
    }

    public boolean drop(int sf) {
        if (!isSubflow(sf) || channelSize[sf] == 0) {
            return false;
        }
        removeHead(sf);
        return true;
    }

    public boolean duplicate(int sf) {
        if (!isSubflow(sf) || channelSize[sf] == 0 || channelSize[sf] == CHANNEL_CAP) {
            return false;
        }
        int head = sf * CHANNEL_CAP;
        append(sf, channelSsn[head], channelDsn[head], channelLen[head]);
        return true;
    }

    public boolean timeout(int sf) {
        if (!isSubflow(sf) || !isEstablished(sf) || sndHigh[sf] == sndUna[sf]) {
            return false;
        }
        int half = cwnd[sf] / 2;
        cwnd[sf] = half < CWND_MIN ? CWND_MIN : half;
        sndNxt[sf] = sndUna[sf];
        return true;
    }

    public boolean fail(int sf) {
        if (!isSubflow(sf) || !isEstablished(sf)) {
            return false;
        }
        for (int ssn = sndUna[sf]; ssn < sndHigh[sf]; ssn++) {
            int slot = recordSlot(sf, ssn);
            reinject(recordDsn[slot], recordLen[slot]);
        }
        // The records need no clearing: a failed subflow never looks at its records again.
        state[sf] = S_FAILED;
        return true;
    }

    public int subflow(int sf, int field) {
        if (!isSubflow(sf)) {
            return UNKNOWN;
        }
        switch (field) {
            case F_STATE: return state[sf];
            case F_CWND: return isEstablished(sf) ? cwnd[sf] : 0;
            case F_RTT: return rtt[sf];
            case F_SND_UNA: return sndUna[sf];
            case F_SND_NXT: return sndNxt[sf];
            case F_SND_HIGH: return sndHigh[sf];
            case F_RCV_NXT: return rcvNxt[sf];
            case F_CHANNEL: return channelSize[sf];
            default: return UNKNOWN;
        }
    }

    public int segment(int sf, int pos, int field) {
        if (!isSubflow(sf) || pos < 0 || pos >= channelSize[sf]) {
            return UNKNOWN;
        }
        int slot = sf * CHANNEL_CAP + pos;
        return mappingField(field, channelSsn[slot], channelDsn[slot], channelLen[slot]);
    }

    public int record(int sf, int ssn, int field) {
        if (!isSubflow(sf) || !isEstablished(sf) || ssn < sndUna[sf] || ssn >= sndHigh[sf]) {
            return UNKNOWN;
        }
        int slot = recordSlot(sf, ssn);
        return mappingField(field, ssn, recordDsn[slot], recordLen[slot]);
    }

    public int conn(int field) {
        switch (field) {
            case C_WRITTEN: return written;
            case C_DATA_UNA: return rcvDataNxt;
            case C_DELIVERED: return rcvDataNxt;
            case C_PENDING: return countSet(pending);
            case C_HELD: return countSet(held);
            case C_SENT: return sent;
            case C_DISCARDED: return discarded;
            case C_BUF_CAP: return bufCap;
            case C_ESTABLISHED: return countEstablished();
            default: return UNKNOWN;
        }
    }

    public int offset(int dsn, int field) {
        if (dsn < 0 || dsn >= MAX_STREAM) {
            return UNKNOWN;
        }
        switch (field) {
            case O_WRITTEN: return dsn < written ? stream[dsn] : UNKNOWN;
            case O_DELIVERED: return dsn < rcvDataNxt ? stream[dsn] : UNKNOWN;
            case O_PENDING: return pending[dsn] ? 1 : 0;
            case O_HELD: return held[dsn] ? 1 : 0;
            default: return UNKNOWN;
        }
    }

    private static int clamp(int value, int least, int greatest) {
        if (value < least) {
            return least;
        }
        return value > greatest ? greatest : value;
    }

    private static boolean isSubflow(int sf) {
        return sf >= 0 && sf < SUBFLOWS;
    }

    private boolean isEstablished(int sf) {
        return state[sf] == S_ESTABLISHED;
    }

    private int refusalOfSend(int sf) {
        if (!isSubflow(sf)) {
            return R_BAD_SUBFLOW;
        }
        if (!isEstablished(sf)) {
            return R_FAILED;
        }
        if (sndNxt[sf] - sndUna[sf] >= window(sf)) {
            return R_WINDOW;
        }
        if (channelSize[sf] == CHANNEL_CAP) {
            return R_CHANNEL_FULL;
        }
        if (sndNxt[sf] == sndHigh[sf] && leastPending() == written) {
            return R_NOTHING;
        }
        return ACCEPTED;
    }

    private int window(int sf) {
        int segments = cwnd[sf] / CWND_PER_SEGMENT;
        return segments > MAX_OUTSTANDING ? MAX_OUTSTANDING : segments;
    }

    /** The least pending offset, or written when none is pending. */
    private int leastPending() {
        for (int d = rcvDataNxt; d < written; d++) {
            if (pending[d]) {
                return d;
            }
        }
        return written;
    }

    private int sendNext(int sf) {
        if (sndNxt[sf] == sndHigh[sf]) {
            makeRecord(sf);
        }
        int ssn = sndNxt[sf];
        int slot = recordSlot(sf, ssn);
        append(sf, ssn, recordDsn[slot], recordLen[slot]);
        sndNxt[sf]++;
        sent++;
        return recordLen[slot];
    }

    private void makeRecord(int sf) {
        int dsn = leastPending();
        int len = 0;
        while (len < MSS && dsn + len < written && pending[dsn + len]) {
            pending[dsn + len] = false;
            len++;
        }
        int slot = recordSlot(sf, sndHigh[sf]);
        recordDsn[slot] = dsn;
        recordLen[slot] = len;
        sndHigh[sf]++;
    }

    private static int recordSlot(int sf, int ssn) {
        return sf * MAX_OUTSTANDING + ssn % MAX_OUTSTANDING;
    }

    private int fastestEligible() {
        int best = NO_SUBFLOW;
        for (int sf = 0; sf < SUBFLOWS; sf++) {
            if (refusalOfSend(sf) == ACCEPTED && (best == NO_SUBFLOW || rtt[sf] < rtt[best])) {
                best = sf;
            }
        }
        return best;
    }

    private void append(int sf, int ssn, int dsn, int len) {
        int slot = sf * CHANNEL_CAP + channelSize[sf];
        channelSsn[slot] = ssn;
        channelDsn[slot] = dsn;
        channelLen[slot] = len;
        channelSize[sf]++;
    }

    private void removeHead(int sf) {
        int first = sf * CHANNEL_CAP;
        int last = first + channelSize[sf] - 1;
        for (int slot = first; slot < last; slot++) {
            channelSsn[slot] = channelSsn[slot + 1];
            channelDsn[slot] = channelDsn[slot + 1];
            channelLen[slot] = channelLen[slot + 1];
        }
        channelSize[sf]--;
    }

    private void hold(int dsn, int len) {
        for (int d = dsn; d < dsn + len; d++) {
            if (d < rcvDataNxt || d >= rcvDataNxt + bufCap || held[d]) {
                discarded++;
            } else {
                held[d] = true;
            }
        }
    }

    private int deliverPrefix() {
        int count = 0;
        while (rcvDataNxt < MAX_STREAM && held[rcvDataNxt]) {
            held[rcvDataNxt] = false;
            // It may wait for reinjection though the failed path brought it after all.
            pending[rcvDataNxt] = false;
            rcvDataNxt++;
            count++;
        }
        return count;
    }

    private void acknowledge(int sf) {
        sndUna[sf] = rcvNxt[sf];
        if (sndNxt[sf] < sndUna[sf]) {
            sndNxt[sf] = sndUna[sf];
        }
        increaseCoupled(sf);
    }

    private void increaseCoupled(int sf) {
        long greatest = 0;
        long sum = 0;
        for (int j = 0; j < SUBFLOWS; j++) {
            if (isEstablished(j)) {
                // 144 and 12 are multiples of every rtt * rtt and every rtt: nothing is rounded.
                long p = quotient(cwnd[j] * 144L, rtt[j] * rtt[j]);
                long q = quotient(cwnd[j] * 12L, rtt[j]);
                greatest = p > greatest ? p : greatest;
                sum += q;
            }
        }
        long linked = quotient(65536L * greatest, sum * sum);
        long alone = quotient(65536L, cwnd[sf]);
        long increase = linked < alone ? linked : alone;
        increase = increase < 1 ? 1 : increase;
        long grown = cwnd[sf] + increase;
        cwnd[sf] = grown > CWND_MAX ? CWND_MAX : (int) grown;
    }

    // No divisor is ever below 1 here; the look keeps a division from resting on far-off code.
    private static long quotient(long dividend, long divisor) {
        return divisor < 1 ? 0 : dividend / divisor;
    }

    private void reinject(int dsn, int len) {
        for (int d = dsn; d < dsn + len; d++) {
            if (d >= rcvDataNxt) {
                pending[d] = true;
            }
        }
    }

    private static int mappingField(int field, int ssn, int dsn, int len) {
        switch (field) {
            case G_SSN: return ssn;
            case G_DSN: return dsn;
            case G_LEN: return len;
            default: return UNKNOWN;
        }
    }

    private static int countSet(boolean[] flags) {
        int count = 0;
        for (int d = 0; d < MAX_STREAM; d++) {
            if (flags[d]) {
                count++;
            }
        }
        return count;
    }

    private int countEstablished() {
        int count = 0;
        for (int sf = 0; sf < SUBFLOWS; sf++) {
            if (isEstablished(sf)) {
                count++;
            }
        }
        return count;
    }
}
