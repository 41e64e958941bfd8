import java.math.BigInteger;

/** Promise 5, the coupled increase: a test for each sentence that names a boundary case. */
public final class IncreaseEdgesTest {
    // Paths (see Make.steered) to a cwnd just below CWND_MAX.
    private static final String TO_4080 = "aaaataaaat" + "a".repeat(127);
    private static final String TO_4095 = "aaaaaaaat" + "a".repeat(127);

    public static void main(String[] args) {
        Check.sentence("cwnd_i becomes cwnd_i + inc, lowered to CWND_MAX if above it.", IncreaseEdgesTest::lowered);
        Check.sentence("256 .. CWND_MAX while established (at CWND_MAX)", IncreaseEdgesTest::staysAtTheMaximum);
        Check.sentence("256 .. CWND_MAX while established (from CWND_MIN)", IncreaseEdgesTest::growsFromTheMinimum);
        Check.sentence("Over every established subflow j", IncreaseEdgesTest::failedOnesAreLeftOut);
        Check.sentence("Over every established subflow j (i alone)", IncreaseEdgesTest::alone);
        Check.sentence("P_j = cwnd_j * 144 / (rtt_j * rtt_j)", IncreaseEdgesTest::squareOfTheRtt);
        Check.sentence("Q_j = cwnd_j * 12 / rtt_j", IncreaseEdgesTest::rttItself);
        Check.sentence("Both divisions are exact.", IncreaseEdgesTest::everyRtt);
        Check.sentence("M is the greatest P_j", IncreaseEdgesTest::greatestAtEachPlace);
        Check.sentence("S is the sum of all Q_j", IncreaseEdgesTest::sumOfAll);
        Check.sentence("both with the quotient rounded down", IncreaseEdgesTest::roundedDown);
        Check.sentence("inc is the smaller of a and b", IncreaseEdgesTest::smallerOfBoth);
        Check.sentence("All arithmetic is 64-bit.", IncreaseEdgesTest::largeProducts);
        Check.sentence("raised to 1 if below 1", IncreaseEdgesTest::neverBelowOne);
        Check.sentence("then the coupled increase is applied once to sf", IncreaseEdgesTest::onceAndOnlyToSf);
        Check.sentence("then the coupled increase is applied once to sf (in many rows of calls)",
            IncreaseEdgesTest::everyAckOfManyRows);
        Check.end();
    }

    private static int cwnd(MultipathStream x, int sf) {
        return x.subflow(sf, MultipathStream.F_CWND);
    }

    private static void lowered() {
        MultipathStream exact = Make.steered(TO_4080);
        Check.due("cwnd", cwnd(exact, 1), 4080);
        Make.carry(exact, 1, 1);
        Check.due("4080 + 16 is CWND_MAX itself", cwnd(exact, 1), 4096);
        MultipathStream above = Make.steered(TO_4095);
        Check.due("cwnd", cwnd(above, 1), 4095);
        Make.carry(above, 1, 1);
        Check.due("4095 + 16 is lowered", cwnd(above, 1), 4096);
    }

    private static void staysAtTheMaximum() {
        for (int sf = 0; sf < 3; sf++) {
            MultipathStream x = Make.alone(sf);
            Make.carry(x, sf, 128);
            for (int k = 0; k < 100; k++) {
                Check.due("cwnd", cwnd(x, sf), 4096);
                Make.carry(x, sf, 1);
            }
            Check.due("cwnd", cwnd(x, sf), 4096);
        }
    }

    private static void growsFromTheMinimum() {
        MultipathStream x = Make.steered("t");
        Check.due("cwnd", cwnd(x, 1), 256);
        Check.due("deliver(1)", x.deliver(1), 1);
        Check.due("256 + 65536 / 256", cwnd(x, 1), 512);
    }

    private static void failedOnesAreLeftOut() {
        // Each row: the rtts, the failed subflow, the one that has an ACK, its cwnd then, worked out by hand.
        int[][] rows = {
            {1, 4, 4, 0, 1, 544}, {1, 4, 4, 1, 0, 593}, {1, 4, 4, 2, 1, 593}, {4, 1, 4, 1, 0, 544},
            {4, 4, 1, 2, 0, 544}, {1, 1, 1, 2, 0, 544}, {2, 3, 4, 0, 1, 553}, {2, 3, 4, 2, 1, 558}
        };
        for (int[] row : rows) {
            MultipathStream x = Make.written(4, row[0], row[1], row[2]);
            Make.fail(x, row[3]);
            Make.send(x, row[4], 4);
            x.deliver(row[4]);
            Check.due("rtt " + row[0] + " " + row[1] + " " + row[2] + " without " + row[3], cwnd(x, row[4]), row[5]);
        }
    }

    private static void alone() {
        for (int rtt = 1; rtt <= 4; rtt++) {
            for (int sf = 0; sf < 3; sf++) {
                MultipathStream x = Make.written(4, rtt, rtt, rtt);
                Make.fail(x, (sf + 1) % 3, (sf + 2) % 3);
                Make.send(x, sf, 4);
                x.deliver(sf);
                Check.due("512 + 65536 / 512 with rtt " + rtt, cwnd(x, sf), 640);
            }
        }
    }

    /** What an ACK on sf must make of its cwnd, told with numbers of any size. */
    private static int due(MultipathStream x, int sf) {
        BigInteger greatest = BigInteger.ZERO;
        BigInteger sum = BigInteger.ZERO;
        for (int j = 0; j < 3; j++) {
            if (x.subflow(j, MultipathStream.F_STATE) == MultipathStream.S_ESTABLISHED) {
                int rtt = x.subflow(j, MultipathStream.F_RTT);
                greatest = greatest.max(BigInteger.valueOf(cwnd(x, j) * (144 / (rtt * rtt))));
                sum = sum.add(BigInteger.valueOf(cwnd(x, j) * (12 / rtt)));
            }
        }
        BigInteger a = BigInteger.valueOf(65536).multiply(greatest).divide(sum.multiply(sum));
        BigInteger b = BigInteger.valueOf(65536 / cwnd(x, sf));
        return Math.min(4096, cwnd(x, sf) + a.min(b).max(BigInteger.ONE).intValueExact());
    }

    private static void carryAndLook(MultipathStream x, int sf, int times) {
        for (int k = 0; k < times; k++) {
            int due = due(x, sf);
            Make.carry(x, sf, 1);
            Check.due("cwnd of " + sf, cwnd(x, sf), due);
        }
    }

    private static void firstAck(int rtt0, int rtt1, int rtt2, int cwnd) {
        for (int sf = 0; sf < 3; sf++) {
            MultipathStream x = Make.written(4, rtt0, rtt1, rtt2);
            Make.send(x, sf, 4);
            x.deliver(sf);
            Check.due("rtt " + rtt0 + " " + rtt1 + " " + rtt2 + ", ACK on " + sf, cwnd(x, sf), cwnd);
        }
    }

    private static void squareOfTheRtt() {
        // a = 128 * (144 / r^2) / (12 / r + 6)^2: 56.9, 32, 20.5 and 14.2 for r = 1 to 4.
        firstAck(1, 4, 4, 568);
        firstAck(2, 4, 4, 544);
        firstAck(3, 4, 4, 532);
        firstAck(4, 4, 4, 526);
    }

    private static void rttItself() {
        // a = 128 * 144 / (12 + 12 + 12 / r)^2: 14.2, 20.5, 23.5 and 25.3 for r = 1 to 4.
        firstAck(1, 1, 1, 526);
        firstAck(1, 1, 2, 532);
        firstAck(1, 1, 3, 535);
        firstAck(1, 1, 4, 537);
    }

    /** With losses, timeouts and failures between the ACKs. */
    private static void everyAckOfManyRows() {
        Rows.foretold("cwnd", (x, calls) -> {
            int sf = calls.argument;
            int cwnd = cwnd(x, sf);
            boolean outstanding = x.subflow(sf, MultipathStream.F_SND_HIGH) > x.subflow(sf, MultipathStream.F_SND_UNA);
            boolean accepted = x.subflow(sf, MultipathStream.F_CHANNEL) > 0
                && x.segment(sf, 0, MultipathStream.G_SSN) == x.subflow(sf, MultipathStream.F_RCV_NXT);
            if (cwnd <= 0) {
                return cwnd;
            }
            switch (calls.call) {
                case Calls.DELIVER: return accepted ? due(x, sf) : cwnd;
                case Calls.TIMEOUT: return outstanding ? Math.max(256, cwnd / 2) : cwnd;
                case Calls.FAIL: return 0;
                default: return cwnd;
            }
        }, (x, calls) -> cwnd(x, calls.argument));
    }

    private static void everyRtt() {
        for (int code = 0; code < 64; code++) {
            MultipathStream x = new MultipathStream(32, code % 4 + 1, code / 4 % 4 + 1, code / 16 + 1);
            for (int k = 0; k < 12; k++) {
                carryAndLook(x, k % 3, 1);
            }
        }
    }

    private static void greatestAtEachPlace() {
        // With two of rtt 4 and one of rtt 1, M is the latter's 512 * 144 wherever it stands and whoever has the ACK.
        for (int fast = 0; fast < 3; fast++) {
            for (int sf = 0; sf < 3; sf++) {
                MultipathStream x = Make.written(4, fast == 0 ? 1 : 4, fast == 1 ? 1 : 4, fast == 2 ? 1 : 4);
                Make.send(x, sf, 4);
                x.deliver(sf);
                Check.due("rtt 1 on " + fast + ", ACK on " + sf, cwnd(x, sf), 568);
            }
        }
    }

    private static void sumOfAll() {
        // M = 512 * 144 in each; S = 512 * (12 + what the two others add): a = 128 * 144 / (12 + ..)^2.
        int[][] rows = {{1, 1, 1, 526}, {1, 2, 2, 544}, {1, 3, 3, 558}, {1, 4, 4, 568}, {1, 2, 4, 553}};
        for (int[] row : rows) {
            for (int sf = 0; sf < 3; sf++) {
                MultipathStream x = Make.written(4, row[0], row[1], row[2]);
                Make.send(x, sf, 4);
                x.deliver(sf);
                Check.due("rtt " + row[0] + " " + row[1] + " " + row[2] + ", ACK on " + sf, cwnd(x, sf), row[3]);
            }
        }
    }

    private static void roundedDown() {
        // a = 128 / 9 = 14.2 for three alike; b = 65536 / 742 = 88.3 and 65536 / 640 = 102.4 for one alone.
        MultipathStream x = Make.written(4, 2, 2, 2);
        Make.send(x, 0, 4);
        x.deliver(0);
        Check.due("512 + 14", cwnd(x, 0), 526);
        int[] due = {512, 640, 742, 830, 908, 980, 1046, 1108, 1167, 1223, 1276};
        for (int k = 0; k < due.length; k++) {
            Check.due("cwnd after " + k + " ACKs", cwnd(Make.steered("a".repeat(k)), 1), due[k]);
        }
    }

    private static void smallerOfBoth() {
        // b = 65536 / 512 = 128 for each of these, and a is always below it.
        int[][] rows = {{1, 1, 1, 0, 14}, {1, 4, 4, 0, 56}, {4, 4, 1, 0, 56}, {2, 1, 3, 2, 38}};
        for (int[] row : rows) {
            MultipathStream x = Make.written(4, row[0], row[1], row[2]);
            Make.send(x, row[3], 4);
            x.deliver(row[3]);
            Check.due("inc", cwnd(x, row[3]) - 512, row[4]);
        }
        // At best a = b, where both cwnd_i and rtt_i are four times the other's; no run of calls gets b below a.
        MultipathStream x = new MultipathStream(32, 1, 4, 1);
        Make.fail(x, 2);
        carryAndLook(x, 1, 150);
        Check.holds("cwnd of 1 is over four times that of 0", cwnd(x, 1) > 4 * cwnd(x, 0));
        carryAndLook(x, 0, 50);
    }

    private static void largeProducts() {
        // 65536 * M and S * S are both beyond 32 bits from the first ACK on, and most so with great windows.
        MultipathStream x = new MultipathStream(32, 1, 1, 1);
        Make.fail(x, 0);
        carryAndLook(x, 1, 100);
        carryAndLook(x, 2, 100);
        MultipathStream y = Make.alone(1);
        carryAndLook(y, 1, 200);
        Check.due("cwnd", cwnd(y, 1), 4096);
    }

    /**
     * With three subflows and cwnd at most 4096, a is at least 65536 / (9 * 4096), so no run of calls makes it 0.
     * What can be seen is that every ACK below CWND_MAX raises cwnd, however large the others are.
     */
    private static void neverBelowOne() {
        int[][] rtts = {{1, 1, 1}, {4, 4, 4}, {1, 4, 4}, {4, 1, 1}};
        for (int[] r : rtts) {
            MultipathStream x = new MultipathStream(32, r[0], r[1], r[2]);
            for (int k = 0; k < 255; k++) {
                int before = cwnd(x, k % 3);
                carryAndLook(x, k % 3, 1);
                Check.holds("cwnd is raised", cwnd(x, k % 3) > before);
            }
        }
    }

    private static void onceAndOnlyToSf() {
        for (int sf = 0; sf < 3; sf++) {
            MultipathStream x = Make.written(5, 1, 1, 1);
            Make.send(x, (sf + 1) % 3, 1 + 3);
            Make.send(x, sf, 1);
            Check.due("a segment that delivers nothing", x.deliver(sf), 0);
            Check.due("has its increase", cwnd(x, sf), 526);
            Check.due("and no other has", cwnd(x, (sf + 1) % 3), 512);
            Check.due("and no other has", cwnd(x, (sf + 2) % 3), 512);
        }
        MultipathStream failed = Make.written(4, 1, 1, 1);
        Make.send(failed, 0, 4);
        Make.fail(failed, 0);
        failed.deliver(0);
        Check.due("an arrival on a failed subflow increases none", cwnd(failed, 1) + cwnd(failed, 2), 1024);
    }
}
