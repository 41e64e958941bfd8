/** Brings objects into the states that the tests start from. */
final class Make {
    /** Arguments that name no subflow. */
    static final int[] NO_SUBFLOWS = {-1, 3, 4, 8, 256, Integer.MIN_VALUE, Integer.MAX_VALUE};

    private Make() {
    }

    /** An object with n bytes written, the byte at offset d being d + 10. */
    static MultipathStream written(int n, int rtt0, int rtt1, int rtt2) {
        MultipathStream x = new MultipathStream(32, rtt0, rtt1, rtt2);
        write(x, n);
        return x;
    }

    static void write(MultipathStream x, int n) {
        for (int k = 0; k < n; k++) {
            Check.holds("a byte of the state is written", x.write(x.conn(MultipathStream.C_WRITTEN) + 10));
        }
    }

    static void duplicate(MultipathStream x, int sf, int times) {
        for (int k = 0; k < times; k++) {
            Check.holds("a segment of the state is duplicated", x.duplicate(sf));
        }
    }

    /** Carries n segments of one byte each over sf, which must be idle, every one acknowledged. */
    static void carry(MultipathStream x, int sf, int n) {
        for (int k = 0; k < n; k++) {
            write(x, 1);
            Check.due("a segment of the state is sent", x.send(sf), 1);
            Check.due("a segment of the state arrives", x.deliver(sf), 1);
        }
    }
}
