import java.util.Map;
import java.util.TreeMap;

/** Everything that the queries show of an object, under readable names. */
final class Snapshot {
    static final String[] CONN_NAMES = {
        "WRITTEN", "DATA_UNA", "DELIVERED", "PENDING", "HELD", "SENT", "DISCARDED", "BUF_CAP", "ESTABLISHED"
    };
    static final String[] SUBFLOW_NAMES = {
        "STATE", "CWND", "RTT", "SND_UNA", "SND_NXT", "SND_HIGH", "RCV_NXT", "CHANNEL"
    };

    private Snapshot() {
    }

    static Map<String, String> of(MultipathStream x) {
        Map<String, String> all = new TreeMap<>();
        for (int field = 0; field < CONN_NAMES.length; field++) {
            all.put(CONN_NAMES[field], "" + x.conn(field));
        }
        for (int sf = 0; sf < MultipathStream.SUBFLOWS; sf++) {
            for (int field = 0; field < SUBFLOW_NAMES.length; field++) {
                all.put("sf" + sf + "." + SUBFLOW_NAMES[field], "" + x.subflow(sf, field));
            }
            all.put("sf" + sf + ".segments", segments(x, sf));
            all.put("sf" + sf + ".records", records(x, sf));
        }
        all.put("written bytes", bytes(x, MultipathStream.O_WRITTEN));
        all.put("delivered bytes", bytes(x, MultipathStream.O_DELIVERED));
        all.put("pending offsets", flags(x, MultipathStream.O_PENDING));
        all.put("held offsets", flags(x, MultipathStream.O_HELD));
        return all;
    }

    static String mapping(int ssn, int dsn, int len) {
        return "(" + ssn + " " + dsn + " " + len + ")";
    }

    private static String segments(MultipathStream x, int sf) {
        StringBuilder line = new StringBuilder();
        for (int pos = -1; pos <= MultipathStream.CHANNEL_CAP; pos++) {
            if (x.segment(sf, pos, MultipathStream.G_SSN) != -1) {
                line.append(mapping(x.segment(sf, pos, MultipathStream.G_SSN),
                    x.segment(sf, pos, MultipathStream.G_DSN), x.segment(sf, pos, MultipathStream.G_LEN)));
            }
        }
        return line.toString();
    }

    private static String records(MultipathStream x, int sf) {
        StringBuilder line = new StringBuilder();
        int high = x.subflow(sf, MultipathStream.F_SND_HIGH);
        for (int ssn = -1; ssn <= high; ssn++) {
            if (x.record(sf, ssn, MultipathStream.G_SSN) != -1) {
                line.append(mapping(x.record(sf, ssn, MultipathStream.G_SSN),
                    x.record(sf, ssn, MultipathStream.G_DSN), x.record(sf, ssn, MultipathStream.G_LEN)));
            }
        }
        return line.toString();
    }

    private static String bytes(MultipathStream x, int field) {
        StringBuilder line = new StringBuilder();
        for (int dsn = 0; dsn < MultipathStream.MAX_STREAM; dsn++) {
            if (x.offset(dsn, field) != -1) {
                line.append(dsn).append(':').append(x.offset(dsn, field)).append(' ');
            }
        }
        return line.toString().trim();
    }

    private static String flags(MultipathStream x, int field) {
        StringBuilder line = new StringBuilder();
        for (int dsn = 0; dsn < MultipathStream.MAX_STREAM; dsn++) {
            if (x.offset(dsn, field) != 0) {
                line.append(dsn).append(' ');
            }
        }
        return line.toString().trim();
    }
}
