import java.math.BigInteger;
import java.util.ArrayList;
import java.util.List;
import java.util.Map;
import java.util.TreeMap;
import java.util.TreeSet;

/** The document told a second time with the library's collections, to compare whole rows of calls with. */
final class Model {
    record Mapping(int ssn, int dsn, int len) {
    }

    private static final class Path {
        final int rtt;
        boolean established = true;
        int cwnd = 512;
        int una = 0;
        int nxt = 0;
        int high = 0;
        int rcv = 0;
        final List<Mapping> channel = new ArrayList<>();
        final Map<Integer, Mapping> records = new TreeMap<>();

        Path(int rtt) {
            this.rtt = Math.max(1, Math.min(4, rtt));
        }
    }

    private final int bufCap;
    private final Path[] paths;
    private final List<Integer> stream = new ArrayList<>();
    private final List<Integer> received = new ArrayList<>();
    private final TreeMap<Integer, Integer> heldBytes = new TreeMap<>();
    private final TreeSet<Integer> pending = new TreeSet<>();
    private int dataUna = 0;
    private int sent = 0;
    private int discarded = 0;

    Model(int[] arguments) {
        bufCap = Math.max(8, Math.min(32, arguments[0]));
        paths = new Path[] {new Path(arguments[1]), new Path(arguments[2]), new Path(arguments[3])};
    }

    int answer(int call, int argument) {
        boolean known = argument >= 0 && argument <= 2;
        Path path = known ? paths[argument] : null;
        switch (call) {
            case Calls.WRITE: return write(argument);
            case Calls.SEND: return known ? send(path) : -1;
            case Calls.SEND_ALL: return sendAll();
            case Calls.DELIVER: return known ? deliver(path) : -1;
            case Calls.DROP: return known ? drop(path) : 0;
            case Calls.DUPLICATE: return known ? duplicate(path) : 0;
            case Calls.TIMEOUT: return known ? timeout(path) : 0;
            default: return known ? fail(path) : 0;
        }
    }

    private int write(int b) {
        if (stream.size() == 256 || stream.size() - dataUna == bufCap) {
            return 0;
        }
        pending.add(stream.size());
        stream.add(Math.floorMod(b, 256));
        return 1;
    }

    /** What send would answer, a length not told apart further than by being above 0. */
    private int prospect(Path path) {
        if (!path.established) {
            return -2;
        }
        if (path.nxt - path.una >= Math.min(path.cwnd / 256, 8)) {
            return -3;
        }
        if (path.channel.size() == 8) {
            return -4;
        }
        return path.nxt < path.high || !pending.isEmpty() ? 1 : -5;
    }

    private int send(Path path) {
        int prospect = prospect(path);
        if (prospect < 0) {
            return prospect;
        }
        Mapping mapping;
        if (path.nxt < path.high) {
            mapping = path.records.get(path.nxt);
        } else {
            int dsn = pending.first();
            int len = 0;
            while (len < 4 && pending.remove(dsn + len)) {
                len++;
            }
            mapping = new Mapping(path.high, dsn, len);
            path.records.put(path.high, mapping);
            path.high++;
        }
        path.channel.add(mapping);
        path.nxt++;
        sent++;
        return mapping.len();
    }

    private int sendAll() {
        int count = 0;
        while (true) {
            Path best = null;
            for (Path path : paths) {
                if (prospect(path) > 0 && (best == null || path.rtt < best.rtt)) {
                    best = path;
                }
            }
            if (best == null) {
                return count;
            }
            send(best);
            count++;
        }
    }

    private int deliver(Path path) {
        if (path.channel.isEmpty()) {
            return -6;
        }
        Mapping head = path.channel.remove(0);
        if (head.ssn() != path.rcv) {
            return 0;
        }
        path.rcv++;
        int base = received.size();
        for (int d = head.dsn(); d < head.dsn() + head.len(); d++) {
            if (d < base || d >= base + bufCap || heldBytes.containsKey(d)) {
                discarded++;
            } else {
                heldBytes.put(d, stream.get(d));
            }
        }
        while (heldBytes.containsKey(received.size())) {
            received.add(heldBytes.remove(received.size()));
        }
        if (path.established) {
            path.una = path.rcv;
            path.records.remove(head.ssn());
            path.nxt = Math.max(path.nxt, path.una);
            increase(path);
        }
        dataUna = received.size();
        pending.headSet(dataUna).clear();
        return received.size() - base;
    }

    private void increase(Path path) {
        BigInteger greatest = BigInteger.ZERO;
        BigInteger sum = BigInteger.ZERO;
        for (Path other : paths) {
            if (other.established) {
                BigInteger cwnd = BigInteger.valueOf(other.cwnd);
                BigInteger rtt = BigInteger.valueOf(other.rtt);
                greatest = greatest.max(cwnd.multiply(BigInteger.valueOf(144)).divide(rtt.pow(2)));
                sum = sum.add(cwnd.multiply(BigInteger.valueOf(12)).divide(rtt));
            }
        }
        BigInteger linked = greatest.shiftLeft(16).divide(sum.pow(2));
        BigInteger alone = BigInteger.valueOf(65536 / path.cwnd);
        int step = linked.min(alone).max(BigInteger.ONE).intValueExact();
        path.cwnd = Math.min(4096, path.cwnd + step);
    }

    private static int drop(Path path) {
        if (path.channel.isEmpty()) {
            return 0;
        }
        path.channel.remove(0);
        return 1;
    }

    private static int duplicate(Path path) {
        if (path.channel.isEmpty() || path.channel.size() == 8) {
            return 0;
        }
        path.channel.add(path.channel.get(0));
        return 1;
    }

    private static int timeout(Path path) {
        if (!path.established || path.high == path.una) {
            return 0;
        }
        path.cwnd = Math.max(256, path.cwnd / 2);
        path.nxt = path.una;
        return 1;
    }

    private int fail(Path path) {
        if (!path.established) {
            return 0;
        }
        for (Mapping mapping : path.records.values()) {
            for (int d = mapping.dsn(); d < mapping.dsn() + mapping.len(); d++) {
                if (d >= dataUna) {
                    pending.add(d);
                }
            }
        }
        path.records.clear();
        path.established = false;
        return 1;
    }

    /** The same names and forms as Snapshot's, but read from the model's own collections. */
    Map<String, String> snapshot() {
        Map<String, String> all = new TreeMap<>();
        int established = 0;
        for (int sf = 0; sf < 3; sf++) {
            Path path = paths[sf];
            established += path.established ? 1 : 0;
            int[] values = {
                path.established ? 1 : 2, path.established ? path.cwnd : 0, path.rtt, path.una, path.nxt,
                path.high, path.rcv, path.channel.size()
            };
            put(all, "sf" + sf + ".", Snapshot.SUBFLOW_NAMES, values);
            all.put("sf" + sf + ".segments", mappings(path.channel));
            all.put("sf" + sf + ".records", mappings(path.records.values()));
        }
        int[] values = {
            stream.size(), dataUna, received.size(), pending.size(), heldBytes.size(), sent, discarded, bufCap,
            established
        };
        put(all, "", Snapshot.CONN_NAMES, values);
        all.put("written bytes", bytes(stream));
        all.put("delivered bytes", bytes(received));
        all.put("pending offsets", flags(pending));
        all.put("held offsets", flags(heldBytes.keySet()));
        return all;
    }

    private static void put(Map<String, String> all, String prefix, String[] names, int[] values) {
        for (int k = 0; k < names.length; k++) {
            all.put(prefix + names[k], "" + values[k]);
        }
    }

    private static String mappings(Iterable<Mapping> some) {
        StringBuilder line = new StringBuilder();
        for (Mapping mapping : some) {
            line.append(Snapshot.mapping(mapping.ssn(), mapping.dsn(), mapping.len()));
        }
        return line.toString();
    }

    private static String bytes(List<Integer> some) {
        StringBuilder line = new StringBuilder();
        for (int d = 0; d < some.size(); d++) {
            line.append(d).append(':').append(some.get(d)).append(' ');
        }
        return line.toString().trim();
    }

    private static String flags(Iterable<Integer> some) {
        StringBuilder line = new StringBuilder();
        for (int d : some) {
            line.append(d).append(' ');
        }
        return line.toString().trim();
    }
}
