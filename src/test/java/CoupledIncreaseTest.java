/** Promise 5: the coupled increase. The values due are worked out by hand from its formulas. */
public final class CoupledIncreaseTest {
    public static void main(String[] args) {
        firstIncrease(1, 1, 1, 0, 526);
        firstIncrease(4, 4, 4, 2, 526);
        firstIncrease(1, 2, 3, 0, 550);
        firstIncrease(1, 2, 3, 1, 550);
        firstIncrease(1, 2, 3, 2, 550);
        firstIncrease(1, 4, 4, 0, 568);
        firstIncrease(4, 1, 4, 0, 568);
        firstIncrease(4, 4, 1, 1, 568);
        secondIncreaseSeesTheFirst();
        failedSubflowsDoNotCount();
        aloneItGrowsToTheMaximum();
        thrownAwaySegmentsDoNotCount();
        discardedBytesCount();
        Check.end();
    }

    private static void firstIncrease(int rtt0, int rtt1, int rtt2, int sf, int cwnd) {
        MultipathStream x = Make.written(4, rtt0, rtt1, rtt2);
        x.send(sf);
        x.deliver(sf);
        for (int j = 0; j < 3; j++) {
            Check.due("cwnd of " + j + " with rtt " + rtt0 + " " + rtt1 + " " + rtt2 + " after an ACK on " + sf,
                x.subflow(j, MultipathStream.F_CWND), j == sf ? cwnd : 512);
        }
    }

    private static void secondIncreaseSeesTheFirst() {
        MultipathStream x = Make.written(8, 1, 2, 3);
        x.send(2);
        x.send(0);
        x.deliver(2);
        x.deliver(0);
        // M = 512 * 144, S = 512 * 18 + 550 * 4: a is 37.07 rounded down.
        Check.due("cwnd of 0", x.subflow(0, MultipathStream.F_CWND), 549);
        Check.due("cwnd of 2", x.subflow(2, MultipathStream.F_CWND), 550);
    }

    private static void failedSubflowsDoNotCount() {
        MultipathStream x = Make.written(8, 1, 4, 4);
        x.send(1);
        x.fail(0);
        x.deliver(1);
        // M = 512 * 9, S = 512 * 6: a is 32.
        Check.due("two left", x.subflow(1, MultipathStream.F_CWND), 544);
        x.fail(2);
        x.send(1);
        x.deliver(1);
        // Alone, a is 65536 / cwnd: 120.47 rounded down.
        Check.due("one left", x.subflow(1, MultipathStream.F_CWND), 664);
    }

    private static void aloneItGrowsToTheMaximum() {
        for (int rtt = 1; rtt <= 4; rtt++) {
            MultipathStream x = new MultipathStream(32, rtt, 1, 1);
            x.fail(1);
            x.fail(2);
            int want = 512;
            for (int k = 0; k < 200; k++) {
                Make.carry(x, 0, 1);
                want = Math.min(4096, want + 65536 / want);
                Check.due("cwnd after " + (k + 1) + " ACKs", x.subflow(0, MultipathStream.F_CWND), want);
            }
            Check.due("cwnd at the end", want, 4096);
        }
    }

    private static void thrownAwaySegmentsDoNotCount() {
        MultipathStream x = Make.written(4, 1, 1, 1);
        x.send(0);
        x.duplicate(0);
        x.deliver(0);
        x.deliver(0);
        Check.due("one increase for a segment and its copy", x.subflow(0, MultipathStream.F_CWND), 526);
    }

    private static void discardedBytesCount() {
        MultipathStream x = Make.written(4, 1, 1, 1);
        x.send(0);
        x.fail(0);
        x.send(1);
        x.deliver(0);
        Check.due("an accepted segment with no new byte", x.deliver(1), 0);
        // M = 512 * 144, S = 1024 * 12: a is 32.
        Check.due("is acknowledged all the same", x.subflow(1, MultipathStream.F_CWND), 544);
    }
}
