import java.util.Map;
import java.util.TreeMap;

/** Promise 1: Construction and the fresh object. */
public final class ConstructionTest {
    public static void main(String[] args) {
        clampsBufCap();
        clampsEveryRtt();
        startsFresh();
        rttStays();
        Check.end();
    }

    private static void clampsBufCap() {
        int[][] cases = {
            {Integer.MIN_VALUE, 8}, {-1, 8}, {0, 8}, {7, 8}, {8, 8}, {9, 9}, {20, 20},
            {31, 31}, {32, 32}, {33, 32}, {Integer.MAX_VALUE, 32}
        };
        for (int[] c : cases) {
            MultipathStream x = new MultipathStream(c[0], 1, 2, 3);
            Check.due("bufCap " + c[0], x.conn(MultipathStream.C_BUF_CAP), c[1]);
            int taken = 0;
            while (taken < 100 && x.write(taken)) {
                taken++;
            }
            Check.due("bytes taken with bufCap " + c[0], taken, c[1]);
        }
    }

    private static void clampsEveryRtt() {
        int[][] cases = {
            {Integer.MIN_VALUE, 1}, {-1, 1}, {0, 1}, {1, 1}, {2, 2}, {3, 3}, {4, 4}, {5, 4}, {Integer.MAX_VALUE, 4}
        };
        for (int[] c : cases) {
            rttsAre(new MultipathStream(16, c[0], 2, 3), c[1], 2, 3);
            rttsAre(new MultipathStream(16, 2, c[0], 3), 2, c[1], 3);
            rttsAre(new MultipathStream(16, 2, 3, c[0]), 2, 3, c[1]);
        }
    }

    private static void rttsAre(MultipathStream x, int rtt0, int rtt1, int rtt2) {
        Check.due("rtt of 0", x.subflow(0, MultipathStream.F_RTT), rtt0);
        Check.due("rtt of 1", x.subflow(1, MultipathStream.F_RTT), rtt1);
        Check.due("rtt of 2", x.subflow(2, MultipathStream.F_RTT), rtt2);
    }

    private static void startsFresh() {
        Map<String, String> want = new TreeMap<>();
        for (String name : Snapshot.CONN_NAMES) {
            want.put(name, "0");
        }
        want.put("BUF_CAP", "16");
        want.put("ESTABLISHED", "3");
        for (int sf = 0; sf < 3; sf++) {
            for (String name : Snapshot.SUBFLOW_NAMES) {
                want.put("sf" + sf + "." + name, "0");
            }
            want.put("sf" + sf + ".STATE", "1");
            want.put("sf" + sf + ".CWND", "512");
            want.put("sf" + sf + ".RTT", "" + (sf + 2));
            want.put("sf" + sf + ".segments", "");
            want.put("sf" + sf + ".records", "");
        }
        want.put("written bytes", "");
        want.put("delivered bytes", "");
        want.put("pending offsets", "");
        want.put("held offsets", "");
        Check.due("the fresh object", Snapshot.of(new MultipathStream(16, 2, 3, 4)), want);
    }

    private static void rttStays() {
        MultipathStream x = Make.written(32, 1, 2, 3);
        x.sendAll();
        x.deliver(0);
        x.timeout(1);
        x.fail(0);
        x.deliver(2);
        rttsAre(x, 1, 2, 3);
    }
}
