import java.util.Map;

/** Promise 8: timeout. */
public final class TimeoutTest {
    public static void main(String[] args) {
        refuses();
        goesBackAndHalves();
        halvesDownToTheMinimum();
        roundsDown();
        worksWithAnEmptyChannel();
        Check.end();
    }

    private static void refuses() {
        MultipathStream x = Make.written(8, 1, 1, 1);
        x.send(0);
        x.send(1);
        x.fail(1);
        for (int sf : Make.NO_SUBFLOWS) {
            Refused.timeout(x, sf);
        }
        Refused.timeout(x, 1);
        Refused.timeout(x, 2);
        x.deliver(0);
        Refused.timeout(x, 0);
    }

    private static void goesBackAndHalves() {
        MultipathStream x = new MultipathStream(32, 1, 1, 1);
        x.fail(1);
        x.fail(2);
        Make.carry(x, 0, 3);
        Make.write(x, 10);
        x.sendAll();
        Check.due("cwnd", x.subflow(0, MultipathStream.F_CWND), 830);
        Map<String, String> before = Snapshot.of(x);
        Check.due("timeout(0)", x.timeout(0), true);
        Check.changed("timeout(0)", before, x, "sf0.CWND=415", "sf0.SND_NXT=3");
        before = Snapshot.of(x);
        Check.due("timeout(0) again", x.timeout(0), true);
        Check.changed("timeout(0) again", before, x, "sf0.CWND=256");
        Check.due("the retransmission", x.send(0), 4);
        Check.due("its ssn", x.segment(0, 3, MultipathStream.G_SSN), 3);
        Refused.send(x, 0, MultipathStream.R_WINDOW);
    }

    private static void halvesDownToTheMinimum() {
        MultipathStream x = Make.written(4, 1, 1, 1);
        x.send(2);
        Check.due("timeout(2)", x.timeout(2), true);
        Check.due("512 becomes 256", x.subflow(2, MultipathStream.F_CWND), 256);
        Check.due("timeout(2) again", x.timeout(2), true);
        Check.due("256 stays", x.subflow(2, MultipathStream.F_CWND), 256);
        Check.due("cwnd of 0", x.subflow(0, MultipathStream.F_CWND), 512);
    }

    private static void roundsDown() {
        MultipathStream x = new MultipathStream(32, 1, 2, 3);
        Make.carry(x, 0, 2);
        Make.write(x, 1);
        x.send(0);
        // 550, then M = 550 * 144 and S = 550 * 12 + 512 * 10: a is 37.79 rounded down.
        Check.due("cwnd", x.subflow(0, MultipathStream.F_CWND), 587);
        x.timeout(0);
        Check.due("half of 587", x.subflow(0, MultipathStream.F_CWND), 293);
    }

    private static void worksWithAnEmptyChannel() {
        MultipathStream x = Make.written(4, 1, 1, 1);
        x.send(0);
        x.drop(0);
        Map<String, String> before = Snapshot.of(x);
        Check.due("timeout(0)", x.timeout(0), true);
        Check.changed("timeout(0)", before, x, "sf0.CWND=256", "sf0.SND_NXT=0");
        Check.due("the retransmission", x.send(0), 4);
        Check.due("it arrives", x.deliver(0), 4);
    }
}
