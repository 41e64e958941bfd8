/** "What it is": a test for each sentence of its telling; the public constants are in PublicFaceTest. */
public final class WhatItIsTest {
    public static void main(String[] args) {
        Check.sentence("one connection-level byte stream carried over three subflows numbered 0, 1, 2",
            WhatItIsTest::oneStreamOverThree);
        Check.sentence("An application writes bytes into the stream.", WhatItIsTest::bytesAreWritten);
        Check.sentence("The bytes are cut into segments of 1 to MSS bytes", WhatItIsTest::cutIntoSegments);
        Check.sentence("and scheduled over the subflows, lowest round-trip time first", WhatItIsTest::lowestFirst);
        Check.sentence("Each subflow has: its own segment sequence numbers", WhatItIsTest::ownNumbers);
        Check.sentence("a lossy first-in first-out channel that can lose or duplicate segments",
            WhatItIsTest::lossyChannel);
        Check.sentence("a go-back retransmission on timeout", WhatItIsTest::goesBack);
        Check.sentence("a congestion window that grows by a coupled (linked increases) rule and is halved on timeout",
            WhatItIsTest::congestionWindow);
        Check.sentence("Every segment carries a data-sequence mapping from its subflow sequence number to a stream "
            + "offset.", WhatItIsTest::mappings);
        Check.sentence("The receiver accepts segments in order per subflow.", WhatItIsTest::inOrderPerSubflow);
        Check.sentence("It places their bytes by stream offset into a bounded reorder window and delivers the "
            + "in-order prefix.", WhatItIsTest::inOrderPrefix);
        Check.sentence("The resulting data-level acknowledgement frees the shared send buffer.",
            WhatItIsTest::freesTheBuffer);
        Check.sentence("the bytes of its unacknowledged mappings that are at or above dataUna become pending again "
            + "and are reinjected on the surviving subflows", WhatItIsTest::reinjected);
        Check.sentence("Segments already in the failed path may still arrive, so the same offsets can reach the "
            + "receiver twice", WhatItIsTest::reachesTwice);
        Check.sentence("every byte of an accepted segment that is already delivered, already held, or at or beyond "
            + "rcvDataNxt + bufCap is counted in discarded, one per byte", WhatItIsTest::discardedPerByte);
        Check.end();
    }

    private static void oneStreamOverThree() {
        MultipathStream x = Make.written(12, 1, 1, 1);
        for (int sf = 0; sf < 3; sf++) {
            Make.send(x, sf, 4);
        }
        Refused.send(x, -1, MultipathStream.R_BAD_SUBFLOW);
        Refused.send(x, 3, MultipathStream.R_BAD_SUBFLOW);
        Check.due("deliver(2)", x.deliver(2), 0);
        Check.due("deliver(1)", x.deliver(1), 0);
        Check.due("deliver(0)", x.deliver(0), 12);
        for (int d = 0; d < 12; d++) {
            Check.due("byte " + d, x.offset(d, MultipathStream.O_DELIVERED), d + 10);
        }
    }

    private static void bytesAreWritten() {
        MultipathStream x = new MultipathStream(8, 1, 1, 1);
        for (int d = 0; d < 8; d++) {
            Check.due("write", x.write(200 - d), true);
            Check.due("written", x.conn(MultipathStream.C_WRITTEN), d + 1);
            Check.due("byte " + d, x.offset(d, MultipathStream.O_WRITTEN), 200 - d);
        }
    }

    /** Each written byte is in exactly one segment of 1 to 4 bytes, and the segments follow each other. */
    private static void cutIntoSegments() {
        for (int n = 1; n <= 24; n++) {
            MultipathStream x = Make.written(n, 1, 2, 3);
            int dsn = 0;
            for (int sf = 0; dsn < n; sf++) {
                for (int k = 0; k < 2 && dsn < n; k++) {
                    Make.send(x, sf, Math.min(4, n - dsn));
                    Check.due("dsn", x.segment(sf, k, MultipathStream.G_DSN), dsn);
                    dsn += x.segment(sf, k, MultipathStream.G_LEN);
                }
            }
            Check.due("bytes in segments", dsn, n);
            Check.due("pending", x.conn(MultipathStream.C_PENDING), 0);
        }
    }

    private static void lowestFirst() {
        int[][] orders = {{0, 1, 2}, {0, 2, 1}, {1, 0, 2}, {1, 2, 0}, {2, 0, 1}, {2, 1, 0}};
        for (int[] order : orders) {
            int[] rtt = new int[3];
            for (int k = 0; k < 3; k++) {
                rtt[order[k]] = k + 1;
            }
            MultipathStream x = Make.written(24, rtt[0], rtt[1], rtt[2]);
            Check.due("sendAll()", x.sendAll(), 6);
            for (int k = 0; k < 6; k++) {
                Check.due("the offset of the segment", x.segment(order[k / 2], k % 2, MultipathStream.G_DSN), 4 * k);
            }
        }
    }

    private static void ownNumbers() {
        MultipathStream x = new MultipathStream(32, 1, 1, 1);
        int[] sends = {2, 0, 2, 1, 2, 2, 0};
        int[] next = new int[3];
        for (int sf : sends) {
            Make.write(x, 1);
            Make.send(x, sf, 1);
            Check.due("ssn on " + sf, x.segment(sf, 0, MultipathStream.G_SSN), next[sf]);
            x.deliver(sf);
            next[sf]++;
        }
        for (int sf = 0; sf < 3; sf++) {
            Check.due("sndHigh of " + sf, x.subflow(sf, MultipathStream.F_SND_HIGH), next[sf]);
        }
    }

    private static void lossyChannel() {
        MultipathStream x = Make.written(8, 1, 1, 1);
        Make.send(x, 1, 4, 4);
        Check.due("in the order sent", Snapshot.of(x).get("sf1.segments"), "(0 0 4)(1 4 4)");
        Check.due("duplicate(1)", x.duplicate(1), true);
        Check.due("a copy", Snapshot.of(x).get("sf1.segments"), "(0 0 4)(1 4 4)(0 0 4)");
        Check.due("drop(1)", x.drop(1), true);
        Check.due("a loss", Snapshot.of(x).get("sf1.segments"), "(1 4 4)(0 0 4)");
        Check.due("the head arrives first", x.deliver(1), 0);
        Check.due("the copy arrives", x.deliver(1), 4);
    }

    private static void goesBack() {
        MultipathStream x = Make.steered("a".repeat(30));
        Make.write(x, 16);
        Make.send(x, 1, 4, 4, 4, 4);
        for (int k = 0; k < 4; k++) {
            x.drop(1);
        }
        Check.due("timeout(1)", x.timeout(1), true);
        for (int k = 0; k < 3; k++) {
            Make.send(x, 1, 4);
            Check.due("ssn", x.segment(1, k, MultipathStream.G_SSN), 30 + k);
            Check.due("dsn", x.segment(1, k, MultipathStream.G_DSN), 30 + 4 * k);
        }
    }

    private static void congestionWindow() {
        MultipathStream x = Make.written(8, 1, 1, 1);
        Make.send(x, 0, 4);
        Make.send(x, 1, 4);
        x.deliver(0);
        // Three alike: a = 65536 * 512 / (3 * 512)^2, which is 14.2, where b is 128.
        Check.due("cwnd grows by what all three have", x.subflow(0, MultipathStream.F_CWND), 526);
        x.timeout(1);
        Check.due("cwnd is halved", x.subflow(1, MultipathStream.F_CWND), 256);
    }

    /** In many rows of calls: while its record is kept, a segment's mapping is the record's. */
    private static void mappings() {
        Rows.onEverySubflow((x, sf) -> {
            boolean same = true;
            for (int pos = 0; pos < x.subflow(sf, MultipathStream.F_CHANNEL); pos++) {
                int ssn = x.segment(sf, pos, MultipathStream.G_SSN);
                boolean kept = x.record(sf, ssn, MultipathStream.G_SSN) == ssn;
                for (int field = MultipathStream.G_DSN; field <= MultipathStream.G_LEN; field++) {
                    same &= !kept || x.segment(sf, pos, field) == x.record(sf, ssn, field);
                }
            }
            return same;
        });
    }

    private static void inOrderPerSubflow() {
        MultipathStream x = Make.written(16, 1, 1, 1);
        Make.send(x, 0, 4, 4);
        Make.send(x, 1, 4, 4);
        x.drop(0);
        Check.due("1 before 0 on subflow 0", x.deliver(0), 0);
        Check.due("is not accepted", x.subflow(0, MultipathStream.F_RCV_NXT), 0);
        Check.due("0 on subflow 1", x.deliver(1), 0);
        Check.due("is accepted all the same", x.subflow(1, MultipathStream.F_RCV_NXT), 1);
        Check.due("1 on subflow 1", x.deliver(1), 0);
        Check.due("is accepted all the same", x.subflow(1, MultipathStream.F_RCV_NXT), 2);
        Check.due("held", Snapshot.of(x).get("held offsets"), "8 9 10 11 12 13 14 15");
    }

    /** In many rows of calls: the offset at rcvDataNxt is never held, and nothing is held beyond the window. */
    private static void inOrderPrefix() {
        Rows.afterEveryCall(step -> {
            int front = step.x.conn(MultipathStream.C_DELIVERED);
            int end = front + step.x.conn(MultipathStream.C_BUF_CAP);
            boolean right = step.x.offset(front, MultipathStream.O_HELD) != 1;
            for (int d = end; d < 256; d++) {
                right &= step.x.offset(d, MultipathStream.O_HELD) == 0;
            }
            return right;
        });
    }

    private static void freesTheBuffer() {
        MultipathStream x = new MultipathStream(12, 1, 1, 1);
        Make.write(x, 12);
        Make.send(x, 0, 4);
        Make.send(x, 1, 4);
        Make.send(x, 2, 4);
        x.deliver(1);
        x.deliver(2);
        Refused.write(x, 1);
        Check.due("deliver(0)", x.deliver(0), 12);
        Check.due("dataUna", x.conn(MultipathStream.C_DATA_UNA), 12);
        Make.write(x, 12);
        Refused.write(x, 1);
    }

    private static void reinjected() {
        MultipathStream x = Make.written(12, 1, 1, 1);
        Make.send(x, 0, 4, 4);
        Make.send(x, 1, 4);
        x.deliver(0);
        Make.fail(x, 0);
        Check.due("the unacknowledged bytes", Snapshot.of(x).get("pending offsets"), "4 5 6 7");
        Check.due("sendAll()", x.sendAll(), 1);
        Check.due("on a surviving subflow", Snapshot.of(x).get("sf1.segments"), "(0 8 4)(1 4 4)");
        x.deliver(1);
        Check.due("deliver(1)", x.deliver(1), 8);
    }

    private static void reachesTwice() {
        MultipathStream x = Make.written(4, 1, 1, 1);
        Make.send(x, 0, 4);
        Make.fail(x, 0);
        Make.send(x, 1, 4);
        Check.due("by the new path", x.deliver(1), 4);
        Check.due("by the failed path", x.deliver(0), 0);
        Check.due("delivered once", x.conn(MultipathStream.C_DELIVERED), 4);
        Check.due("and discarded once", x.conn(MultipathStream.C_DISCARDED), 4);
    }

    /** In many rows of calls: discarded grows by just those bytes of an arriving segment, and by no other call. */
    private static void discardedPerByte() {
        int[] grown = {0};
        Rows.foretold("discarded", (x, calls) -> {
            int more = calls.call == Calls.DELIVER ? useless(x, calls.argument) : 0;
            grown[0] += more;
            return x.conn(MultipathStream.C_DISCARDED) + more;
        }, (x, calls) -> x.conn(MultipathStream.C_DISCARDED));
        Check.holds("bytes are discarded in many of them: " + grown[0], grown[0] > 100);
    }

    /** How many bytes of the head of sf, if it is accepted, the receiver has no use for. */
    private static int useless(MultipathStream x, int sf) {
        int ssn = x.segment(sf, 0, MultipathStream.G_SSN);
        int dsn = x.segment(sf, 0, MultipathStream.G_DSN);
        int front = x.conn(MultipathStream.C_DELIVERED);
        int count = 0;
        for (int d = dsn; ssn >= 0 && d < dsn + x.segment(sf, 0, MultipathStream.G_LEN); d++) {
            boolean beyond = d >= front + x.conn(MultipathStream.C_BUF_CAP);
            if (d < front || beyond || x.offset(d, MultipathStream.O_HELD) == 1) {
                count++;
            }
        }
        return ssn == x.subflow(sf, MultipathStream.F_RCV_NXT) ? count : 0;
    }
}
