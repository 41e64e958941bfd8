/** Brings objects into the states that the tests start from. */
final class Make {
    /** Ints that are no subflow: near the range, and such that a product or a mask falls back into it. */
    static final int[] NO_SUBFLOWS = {
        -1, 3, 4, 5, 8, -3, -8, 256, -256, 65536, 1 << 28, 1 << 29, (1 << 29) + 1, 1 << 30, (1 << 30) + 2,
        Integer.MIN_VALUE, Integer.MIN_VALUE + 1, Integer.MIN_VALUE + 2, Integer.MAX_VALUE - 1, Integer.MAX_VALUE
    };

    private Make() {
    }

    /** An object with n bytes written, the byte at offset d being d + 10. */
    static MultipathStream written(int n, int rtt0, int rtt1, int rtt2) {
        MultipathStream x = new MultipathStream(32, rtt0, rtt1, rtt2);
        write(x, n);
        return x;
    }

    static void write(MultipathStream x, int n) {
        for (int k = 0; k < n; k++) {
            Check.holds("a byte of the state is written", x.write(x.conn(MultipathStream.C_WRITTEN) + 10));
        }
    }

    /** Sends on sf, each of the segments having the length named. */
    static void send(MultipathStream x, int sf, int... lengths) {
        for (int length : lengths) {
            Check.due("a segment of the state is sent on " + sf, x.send(sf), length);
        }
    }

    static void duplicate(MultipathStream x, int sf, int times) {
        for (int k = 0; k < times; k++) {
            Check.holds("a segment of the state is duplicated", x.duplicate(sf));
        }
    }

    static void fillChannel(MultipathStream x, int sf) {
        duplicate(x, sf, MultipathStream.CHANNEL_CAP - x.subflow(sf, MultipathStream.F_CHANNEL));
    }

    static void fail(MultipathStream x, int... some) {
        for (int sf : some) {
            Check.holds("subflow " + sf + " of the state fails", x.fail(sf));
        }
    }

    /** Carries n segments of one byte each over sf, which must be idle, every one acknowledged. */
    static void carry(MultipathStream x, int sf, int n) {
        for (int k = 0; k < n; k++) {
            write(x, 1);
            Check.due("a segment of the state is sent", x.send(sf), 1);
            Check.due("a segment of the state arrives", x.deliver(sf), 1);
        }
    }

    /** An object whose only established subflow is sf. */
    static MultipathStream alone(int sf) {
        MultipathStream x = new MultipathStream(32, 1, 1, 1);
        fail(x, (sf + 1) % 3, (sf + 2) % 3);
        return x;
    }

    /**
     * An object whose only established subflow, 1, has had an ACK for every 'a' and a timeout for every 't' of
     * the path. Alone, an ACK makes cwnd into cwnd + 65536 / cwnd and a timeout halves it, so a path leads to
     * one cwnd. Behind a last 't' one segment of one byte is outstanding, its first copy still in the channel.
     */
    static MultipathStream steered(String path) {
        MultipathStream x = alone(1);
        for (int k = 0; k < path.length(); k++) {
            if (x.subflow(1, MultipathStream.F_SND_HIGH) == x.subflow(1, MultipathStream.F_SND_UNA)) {
                write(x, 1);
                Check.due("a segment of the path is sent", x.send(1), 1);
            }
            if (path.charAt(k) == 'a') {
                Check.due("an ACK of the path", x.deliver(1), 1);
            } else {
                Check.due("a timeout of the path", x.timeout(1), true);
            }
        }
        return x;
    }

    /** An object whose whole stream is written and delivered, over subflow 0. */
    static MultipathStream wholeStream() {
        MultipathStream x = new MultipathStream(32, 1, 2, 3);
        carry(x, 0, MultipathStream.MAX_STREAM);
        return x;
    }

    /**
     * Four bytes delivered, 4..7 pending again, 8..11 held, 12..19 on their way, 20 pending. Subflow 0 has failed
     * with a segment in its channel, 1 has one segment acknowledged and one not, 2 has timed out and has a copy.
     */
    static MultipathStream manySided() {
        MultipathStream x = new MultipathStream(20, 1, 2, 3);
        write(x, 4);
        send(x, 0, 4);
        x.deliver(0);
        write(x, 16);
        send(x, 0, 4);
        send(x, 1, 4, 4);
        x.deliver(1);
        send(x, 2, 4);
        x.timeout(2);
        duplicate(x, 2, 1);
        fail(x, 0);
        x.write(-1);
        return x;
    }
}
