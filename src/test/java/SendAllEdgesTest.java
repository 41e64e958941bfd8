import java.util.Map;

/** Promise 4, sendAll: a test for each sentence that names a boundary case. */
public final class SendAllEdgesTest {
    public static void main(String[] args) {
        Check.sentence("If no subflow is eligible, it stops. (nothing to send)", SendAllEdgesTest::nothingToSend);
        Check.sentence("If no subflow is eligible, it stops. (windows full)", SendAllEdgesTest::windowsFull);
        Check.sentence("If no subflow is eligible, it stops. (channels full)", SendAllEdgesTest::channelsFull);
        Check.sentence("If no subflow is eligible, it stops. (all failed)", SendAllEdgesTest::allFailed);
        Check.sentence("If no subflow is eligible, it stops. (each for another reason)",
            SendAllEdgesTest::eachForAnotherReason);
        Check.sentence("A subflow is eligible when send(i) in the present state would answer a length.",
            SendAllEdgesTest::onlyOneEligible);
        Check.sentence("would answer a length (of a retransmission)", SendAllEdgesTest::retransmissionIsEligible);
        Check.sentence("the eligible subflow with the smallest rtt", SendAllEdgesTest::smallestRtt);
        Check.sentence("ties go to the lowest index", SendAllEdgesTest::ties);
        Check.sentence("It repeats one step", SendAllEdgesTest::everyStepLooksAnew);
        Check.sentence("The answer is the number of segments sent by this call, 0 when none.",
            SendAllEdgesTest::answersTheNumber);
        Check.sentence("Each of those sends has exactly the effects of Promise 3, so sent grows by the answer.",
            SendAllEdgesTest::sameAsSendsByHand);
        Check.sentence("When the answer is 0, nothing changes.", SendAllEdgesTest::zeroChangesNothing);
        Check.end();
    }

    private static void nothingToSend() {
        MultipathStream x = new MultipathStream(8, 1, 2, 3);
        Refused.sendAll(x);
        Make.write(x, 5);
        Check.due("sendAll()", x.sendAll(), 2);
        Refused.sendAll(x);
        x.deliver(0);
        x.deliver(0);
        Refused.sendAll(x);
        Refused.sendAll(Make.wholeStream());
    }

    private static void windowsFull() {
        MultipathStream x = Make.written(32, 1, 2, 3);
        Check.due("sendAll()", x.sendAll(), 6);
        Check.due("pending", x.conn(MultipathStream.C_PENDING), 8);
        Refused.sendAll(x);
    }

    private static void channelsFull() {
        MultipathStream x = Make.written(12, 1, 2, 3);
        for (int sf = 0; sf < 3; sf++) {
            Make.send(x, sf, 4);
            Make.fillChannel(x, sf);
        }
        Make.write(x, 8);
        Refused.sendAll(x);
        x.timeout(1);
        Refused.sendAll(x);
    }

    private static void allFailed() {
        MultipathStream x = Make.written(32, 1, 2, 3);
        x.sendAll();
        Make.fail(x, 0, 1, 2);
        Check.due("pending", x.conn(MultipathStream.C_PENDING), 32);
        Refused.sendAll(x);
    }

    private static void eachForAnotherReason() {
        for (int turn = 0; turn < 3; turn++) {
            int failed = turn;
            int windowFull = (turn + 1) % 3;
            int channelFull = (turn + 2) % 3;
            MultipathStream x = Make.written(32, 1, 2, 3);
            Make.fail(x, failed);
            Make.send(x, windowFull, 4, 4);
            Make.send(x, channelFull, 4);
            Make.fillChannel(x, channelFull);
            Refused.sendAll(x);
        }
    }

    private static void onlyOneEligible() {
        for (int sf = 0; sf < 3; sf++) {
            MultipathStream x = Make.written(32, 2, 2, 2);
            int failed = (sf + 1) % 3;
            int windowFull = (sf + 2) % 3;
            Make.fail(x, failed);
            Make.send(x, windowFull, 4, 4);
            Check.due("sendAll()", x.sendAll(), 2);
            Check.due("in the channel of " + sf, x.subflow(sf, MultipathStream.F_CHANNEL), 2);
            Check.due("in the failed one", x.subflow(failed, MultipathStream.F_CHANNEL), 0);
            Check.due("in the full one", x.subflow(windowFull, MultipathStream.F_CHANNEL), 2);
        }
    }

    private static void retransmissionIsEligible() {
        MultipathStream x = Make.written(10, 1, 2, 3);
        Make.send(x, 2, 4, 4);
        Make.send(x, 1, 2);
        x.timeout(2);
        x.timeout(1);
        Check.due("pending", x.conn(MultipathStream.C_PENDING), 0);
        Map<String, String> before = Snapshot.of(x);
        Check.due("sendAll() with nothing pending", x.sendAll(), 2);
        Check.changed("sendAll()", before, x, "SENT=5", "sf1.SND_NXT=1", "sf1.CHANNEL=2",
            "sf1.segments=(0 8 2)(0 8 2)", "sf2.SND_NXT=1", "sf2.CHANNEL=3",
            "sf2.segments=(0 0 4)(1 4 4)(0 0 4)");
    }

    /** How many of n segments each subflow has, when all windows are two and the fastest fill first. */
    private static int[] filled(int[] rtts, int n) {
        int[] has = new int[3];
        for (int k = 0; k < n; k++) {
            int best = -1;
            for (int sf = 2; sf >= 0; sf--) {
                if (has[sf] < 2 && (best == -1 || rtts[sf] <= rtts[best])) {
                    best = sf;
                }
            }
            has[best]++;
        }
        return has;
    }

    private static void fillsByRtt(int[] rtts) {
        for (int n = 1; n <= 6; n++) {
            MultipathStream x = Make.written(4 * n, rtts[0], rtts[1], rtts[2]);
            Check.due("sendAll()", x.sendAll(), n);
            int[] has = filled(rtts, n);
            for (int sf = 0; sf < 3; sf++) {
                String where = "with rtt " + rtts[0] + " " + rtts[1] + " " + rtts[2] + " in channel " + sf;
                Check.due(where, x.subflow(sf, MultipathStream.F_CHANNEL), has[sf]);
            }
        }
    }

    private static void smallestRtt() {
        int[][] allDifferent = {
            {1, 2, 3}, {1, 3, 2}, {2, 1, 3}, {2, 3, 1}, {3, 1, 2}, {3, 2, 1}, {1, 4, 3}, {4, 1, 2}, {4, 3, 1}
        };
        for (int[] rtts : allDifferent) {
            fillsByRtt(rtts);
        }
        MultipathStream x = Make.written(24, 3, 1, 2);
        x.sendAll();
        Check.due("the first bytes take the fastest", x.segment(1, 0, MultipathStream.G_DSN), 0);
        Check.due("the next", x.segment(1, 1, MultipathStream.G_DSN), 4);
        Check.due("then the second", x.segment(2, 0, MultipathStream.G_DSN), 8);
        Check.due("the last take the slowest", x.segment(0, 1, MultipathStream.G_DSN), 20);
    }

    private static void ties() {
        for (int a = 1; a <= 4; a++) {
            for (int b = 1; b <= 4; b++) {
                fillsByRtt(new int[] {a, a, b});
                fillsByRtt(new int[] {a, b, a});
                fillsByRtt(new int[] {b, a, a});
            }
        }
        MultipathStream x = Make.written(24, 2, 2, 2);
        x.sendAll();
        for (int sf = 0; sf < 3; sf++) {
            Check.due("the dsn on " + sf, x.segment(sf, 0, MultipathStream.G_DSN), 8 * sf);
        }
        MultipathStream y = Make.written(16, 1, 2, 2);
        Make.fail(y, 0);
        y.sendAll();
        Check.due("a tie without the fastest", y.segment(1, 0, MultipathStream.G_DSN), 0);
        Check.due("and the second of it", y.segment(2, 0, MultipathStream.G_DSN), 8);
    }

    private static void everyStepLooksAnew() {
        // The fastest has a record to send again and then room for one new segment, and takes the last bytes.
        MultipathStream x = Make.steered("aaaaaaa");
        Check.due("cwnd", x.subflow(1, MultipathStream.F_CWND), 1108);
        Make.write(x, 4);
        Make.send(x, 1, 4);
        x.timeout(1);
        Make.write(x, 3);
        Map<String, String> before = Snapshot.of(x);
        Check.due("sendAll()", x.sendAll(), 2);
        Check.changed("sendAll()", before, x, "SENT=10", "PENDING=0", "pending offsets=", "sf1.SND_NXT=9",
            "sf1.SND_HIGH=9", "sf1.CHANNEL=3", "sf1.segments=(7 7 4)(7 7 4)(8 11 3)",
            "sf1.records=(7 7 4)(8 11 3)");

        MultipathStream y = Make.written(9, 1, 2, 3);
        Check.due("sendAll() of 4 + 4 + 1 bytes", y.sendAll(), 3);
        Check.due("the last byte finds the fastest full", y.segment(1, 0, MultipathStream.G_LEN), 1);
        Check.due("nothing is left for the third", y.subflow(2, MultipathStream.F_CHANNEL), 0);
    }

    private static void answersTheNumber() {
        for (int n = 0; n <= 32; n++) {
            MultipathStream x = Make.written(n, 1, 2, 3);
            int due = Math.min(6, (n + 3) / 4);
            Check.due("sendAll() of " + n + " bytes", x.sendAll(), due);
            Check.due("sent", x.conn(MultipathStream.C_SENT), due);
            Refused.sendAll(x);
        }
    }

    private static void zeroChangesNothing() {
        MultipathStream x = Make.manySided();
        Check.holds("sendAll() sends what it can", x.sendAll() > 0);
        Refused.sendAll(x);
        x.fail(1);
        Refused.sendAll(x);
        x.deliver(0);
        Refused.sendAll(x);
    }

    /** The scheduler told by sends alone: a refused send changes nothing, so the next may simply be tried. */
    private static int sendByHand(MultipathStream x) {
        int count = 0;
        boolean sent = true;
        // No subflow has more than eight places.
        for (int step = 0; step <= 24 && sent; step++) {
            sent = false;
            for (int rtt = 1; rtt <= 4 && !sent; rtt++) {
                for (int sf = 0; sf < 3 && !sent; sf++) {
                    sent = x.subflow(sf, MultipathStream.F_RTT) == rtt && x.send(sf) > 0;
                }
            }
            count += sent ? 1 : 0;
        }
        return count;
    }

    private static void sameAsSendsByHand() {
        for (int number = 0; number < 60; number++) {
            Calls calls = new Calls(number);
            int[] arguments = new int[4];
            MultipathStream x = calls.fresh(arguments);
            MultipathStream y = new MultipathStream(arguments[0], arguments[1], arguments[2], arguments[3]);
            for (int k = 0; k < 600; k++) {
                calls.next();
                if (calls.call == Calls.SEND_ALL) {
                    int sentBefore = x.conn(MultipathStream.C_SENT);
                    int answer = x.sendAll();
                    Check.due("row " + number + ", call " + k, answer, sendByHand(y));
                    Check.due("sent grows", x.conn(MultipathStream.C_SENT), sentBefore + answer);
                    Check.due("row " + number + ", call " + k + ": the state", Snapshot.of(x), Snapshot.of(y));
                } else {
                    calls.answer(x);
                    calls.answer(y);
                }
            }
        }
    }
}
