import java.util.Map;

/** Promises 10 to 14: subflow, segment, record, conn and offset. */
public final class QueriesTest {
    private static final int[] EXTREMES = {Integer.MIN_VALUE, -256, -1, 3, 8, 9, 256, Integer.MAX_VALUE};

    public static void main(String[] args) {
        MultipathStream x = Make.manySided();
        Map<String, String> before = Snapshot.of(x);
        subflow(x);
        segment(x);
        record(x);
        conn(x);
        offset(x);
        Check.unchanged("no query", before, x);
        Check.end();
    }

    private static void row(String what, int[] got, int... want) {
        for (int k = 0; k < want.length; k++) {
            Check.due(what + " " + k, got[k], want[k]);
        }
    }

    private static void subflow(MultipathStream x) {
        int[][] got = new int[3][8];
        for (int sf = 0; sf < 3; sf++) {
            for (int field = 0; field < 8; field++) {
                got[sf][field] = x.subflow(sf, field);
            }
        }
        // Subflow 1: M = 550 * 144 and S = 550 * 12 + 512 * 10, so a is 37.79 rounded down.
        row("subflow(0)", got[0], 2, 0, 1, 1, 2, 2, 1, 1);
        row("subflow(1)", got[1], 1, 549, 2, 1, 2, 2, 1, 1);
        row("subflow(2)", got[2], 1, 256, 3, 0, 0, 1, 0, 2);
        for (int wrong : EXTREMES) {
            if (wrong < 0 || wrong > 7) {
                Check.due("subflow(0, " + wrong + ")", x.subflow(0, wrong), -1);
            }
            Check.due("subflow(" + wrong + ", 0)", x.subflow(wrong, 0), -1);
            Check.due("subflow(" + wrong + ", " + wrong + ")", x.subflow(wrong, wrong), -1);
        }
    }

    private static void segment(MultipathStream x) {
        int[][] due = {{0, 0, 1, 4, 4}, {1, 0, 1, 12, 4}, {2, 0, 0, 16, 4}, {2, 1, 0, 16, 4}};
        for (int[] d : due) {
            row("segment(" + d[0] + ", " + d[1] + ")", new int[] {
                x.segment(d[0], d[1], MultipathStream.G_SSN), x.segment(d[0], d[1], MultipathStream.G_DSN),
                x.segment(d[0], d[1], MultipathStream.G_LEN)}, d[2], d[3], d[4]);
        }
        Check.due("segment(0, 1, 0)", x.segment(0, 1, 0), -1);
        Check.due("segment(2, 2, 0)", x.segment(2, 2, 0), -1);
        Check.due("segment(2, 7, 2)", x.segment(2, 7, 2), -1);
        for (int wrong : EXTREMES) {
            Check.due("segment(" + wrong + ", 0, 0)", x.segment(wrong, 0, 0), -1);
            Check.due("segment(2, " + wrong + ", 0)", x.segment(2, wrong, 0), -1);
            Check.due("segment(2, 0, " + wrong + ")", x.segment(2, 0, wrong), -1);
        }
    }

    private static void record(MultipathStream x) {
        int[][] due = {{1, 1, 1, 12, 4}, {2, 0, 0, 16, 4}};
        for (int[] d : due) {
            row("record(" + d[0] + ", " + d[1] + ")", new int[] {
                x.record(d[0], d[1], MultipathStream.G_SSN), x.record(d[0], d[1], MultipathStream.G_DSN),
                x.record(d[0], d[1], MultipathStream.G_LEN)}, d[2], d[3], d[4]);
        }
        for (int field = 0; field < 3; field++) {
            Check.due("the acknowledged record", x.record(1, 0, field), -1);
            Check.due("the record at sndHigh", x.record(1, 2, field), -1);
            Check.due("a record of a failed subflow", x.record(0, 1, field), -1);
            Check.due("a record 8 further", x.record(1, 9, field), -1);
            Check.due("a record 8 before", x.record(1, -7, field), -1);
        }
        for (int wrong : EXTREMES) {
            Check.due("record(" + wrong + ", 0, 0)", x.record(wrong, 0, 0), -1);
            Check.due("record(2, " + wrong + ", 0)", x.record(2, wrong, 0), -1);
            Check.due("record(2, 0, " + wrong + ")", x.record(2, 0, wrong), -1);
        }
    }

    private static void conn(MultipathStream x) {
        int[] got = new int[9];
        for (int field = 0; field < 9; field++) {
            got[field] = x.conn(field);
        }
        row("conn", got, 21, 4, 4, 5, 4, 5, 0, 20, 2);
        for (int wrong : EXTREMES) {
            if (wrong < 0 || wrong > 8) {
                Check.due("conn(" + wrong + ")", x.conn(wrong), -1);
            }
        }
        MultipathStream y = Make.written(4, 1, 1, 1);
        y.send(0);
        y.fail(0);
        y.send(1);
        y.deliver(0);
        y.deliver(1);
        Check.due("conn(C_DISCARDED)", y.conn(MultipathStream.C_DISCARDED), 4);
    }

    private static void offset(MultipathStream x) {
        int[][] due = {
            {0, 10, 10, 0, 0}, {3, 13, 13, 0, 0}, {4, 14, -1, 1, 0}, {7, 17, -1, 1, 0}, {8, 18, -1, 0, 1},
            {11, 21, -1, 0, 1}, {12, 22, -1, 0, 0}, {19, 29, -1, 0, 0}, {20, 255, -1, 1, 0}, {21, -1, -1, 0, 0},
            {255, -1, -1, 0, 0}
        };
        for (int[] d : due) {
            row("offset(" + d[0] + ")", new int[] {
                x.offset(d[0], MultipathStream.O_WRITTEN), x.offset(d[0], MultipathStream.O_DELIVERED),
                x.offset(d[0], MultipathStream.O_PENDING), x.offset(d[0], MultipathStream.O_HELD)},
                d[1], d[2], d[3], d[4]);
        }
        int[] wrongOffsets = {Integer.MIN_VALUE, -1, 256, 257, Integer.MAX_VALUE};
        for (int wrong : wrongOffsets) {
            for (int field = 0; field < 4; field++) {
                Check.due("offset(" + wrong + ", " + field + ")", x.offset(wrong, field), -1);
            }
        }
        int[] wrongFields = {Integer.MIN_VALUE, -1, 4, 5, Integer.MAX_VALUE};
        for (int wrong : wrongFields) {
            Check.due("offset(0, " + wrong + ")", x.offset(0, wrong), -1);
            Check.due("offset(255, " + wrong + ")", x.offset(255, wrong), -1);
        }
    }
}
