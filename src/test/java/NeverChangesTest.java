import java.util.List;
import java.util.Set;
import java.util.function.Predicate;

/** What the promises say that a call does not change, bullet by bullet, for every call of many rows of calls. */
public final class NeverChangesTest {
    private static final List<Changes> ALL = Changes.ofManyRows();
    private static final Set<String> VALUES = Snapshot.of(new MultipathStream(8, 1, 2, 3)).keySet();

    // A kind of call that hardly comes, or is nearly always refused, would show nothing.
    private static final int ENOUGH = 80;

    public static void main(String[] args) {
        Check.sentence("A refused call changes nothing at all.", NeverChangesTest::refused);
        write();
        send();
        sendAll();
        deliver();
        drop();
        duplicate();
        timeout();
        fail();
        Check.end();
    }

    private static void write() {
        never("No subflow, channel, counter, held offset or delivered byte changes.", Calls.WRITE,
            "every", "SENT", "DISCARDED", "HELD", "held offsets", "DATA_UNA", "DELIVERED", "delivered bytes");
        only("the byte is stored at offset written; its pending flag is set; written grows by 1", Calls.WRITE,
            "WRITTEN", "written bytes", "PENDING", "pending offsets");
    }

    private static void send() {
        never("send never changes: cwnd, rtt, sndUna or rcvNxt", Calls.SEND,
            "own CWND", "own RTT", "own SND_UNA", "own RCV_NXT");
        never("send never changes: other subflows", Calls.SEND, "others");
        never("send never changes: the stream, written, dataUna, rcvDataNxt, held offsets or discarded", Calls.SEND,
            "written bytes", "WRITTEN", "DATA_UNA", "DELIVERED", "delivered bytes", "HELD", "held offsets",
            "DISCARDED");
        Check.sentence("it retransmits: [..] pending flags do not change", () ->
            each(Calls.SEND, c -> !c.refused() && !c.is.containsKey("sf" + c.argument + ".SND_HIGH"),
                c -> !c.is.containsKey("PENDING") && !c.is.containsKey("pending offsets")));
    }

    private static void sendAll() {
        never("Each of those sends has exactly the effects of Promise 3: cwnd, rtt, sndUna or rcvNxt", Calls.SEND_ALL,
            "every CWND", "every RTT", "every SND_UNA", "every RCV_NXT");
        never("Each of those sends has exactly the effects of Promise 3: the stream, written, dataUna, rcvDataNxt, "
            + "held offsets or discarded", Calls.SEND_ALL, "written bytes", "WRITTEN", "DATA_UNA", "DELIVERED",
            "delivered bytes", "HELD", "held offsets", "DISCARDED");
    }

    private static void deliver() {
        never("deliver never changes: the written stream or written", Calls.DELIVER, "written bytes", "WRITTEN");
        Check.sentence("deliver never changes: pending flags of offsets at or above the new dataUna",
            () -> each(Calls.DELIVER, c -> !c.refused(), NeverChangesTest::pendingAboveStays));
        never("deliver never changes: sent", Calls.DELIVER, "SENT");
        never("deliver never changes: sndHigh", Calls.DELIVER, "every SND_HIGH");
        never("deliver never changes: records of other ssn (of other subflows)", Calls.DELIVER, "others records");
        Check.sentence("deliver never changes: records of other ssn",
            () -> each(Calls.DELIVER, c -> c.is.containsKey("sf" + c.argument + ".records"),
                NeverChangesTest::otherRecordsStay));
        never("deliver never changes: the cwnd of subflows other than sf", Calls.DELIVER, "others CWND");
        never("deliver never changes: other channels", Calls.DELIVER, "others CHANNEL", "others segments");
        never("deliver never changes: other subflows' counters", Calls.DELIVER,
            "others SND_UNA", "others SND_NXT", "others SND_HIGH", "others RCV_NXT");
        Check.sentence("Bytes already delivered are never altered.",
            () -> each(Calls.DELIVER, c -> c.is.containsKey("delivered bytes"),
                c -> c.is.get("delivered bytes").startsWith(c.was.get("delivered bytes"))));
    }

    private static void drop() {
        only("apart from the channel becoming one shorter, no counter, other subflow value, record, pending flag or "
            + "held offset changes", Calls.DROP, "own CHANNEL", "own segments");
    }

    private static void duplicate() {
        never("The counter sent is not changed", Calls.DUPLICATE, "SENT");
        only("and nothing else changes", Calls.DUPLICATE, "own CHANNEL", "own segments");
    }

    private static void timeout() {
        never("the channel is unchanged", Calls.TIMEOUT, "own CHANNEL", "own segments");
        never("sndUna, sndHigh, the records, rcvNxt [..] stay as they are", Calls.TIMEOUT,
            "own SND_UNA", "own SND_HIGH", "own records", "own RCV_NXT");
        never("all connection values and the other subflows stay as they are", Calls.TIMEOUT, "others", "WRITTEN",
            "DATA_UNA", "DELIVERED", "PENDING", "HELD", "SENT", "DISCARDED", "BUF_CAP", "ESTABLISHED",
            "written bytes", "delivered bytes", "pending offsets", "held offsets");
    }

    private static void fail() {
        never("Counters and the channel stay as they are.", Calls.FAIL, "own SND_UNA", "own SND_NXT",
            "own SND_HIGH", "own RCV_NXT", "own CHANNEL", "own segments");
        never("The stream, written, dataUna, rcvDataNxt, held offsets, sent, discarded and the other subflows do not "
            + "change.", Calls.FAIL, "written bytes", "WRITTEN", "DATA_UNA", "DELIVERED", "delivered bytes", "HELD",
            "held offsets", "SENT", "DISCARDED", "others");
    }

    private static void refused() {
        for (Changes c : ALL) {
            if (c.refused()) {
                Check.due(c.where + ", answering " + c.answer + ", changes", c.is.keySet(), Set.of());
            }
        }
    }

    /** No call of the kind changes a value that the words mean. */
    private static void never(String sentence, int call, String... words) {
        Check.sentence(sentence, () -> each(call, c -> !c.refused(), c -> {
            boolean some = VALUES.stream().anyMatch(value -> c.means(value, words));
            return some && c.is.keySet().stream().noneMatch(value -> c.means(value, words));
        }));
    }

    /** No call of the kind changes a value that the words do not mean. */
    private static void only(String sentence, int call, String... words) {
        Check.sentence(sentence, () -> each(call, c -> !c.refused(),
            c -> c.is.keySet().stream().allMatch(value -> c.means(value, words))));
    }

    private static void each(int call, Predicate<Changes> looked, Predicate<Changes> law) {
        int count = 0;
        for (Changes c : ALL) {
            if (c.call == call && looked.test(c)) {
                count++;
                Check.holds(c.where + ", answering " + c.answer + ", with " + c.is, law.test(c));
            }
        }
        Check.holds("of " + Calls.NAMES[call] + " there are enough: " + count, count >= ENOUGH);
    }

    private static boolean pendingAboveStays(Changes c) {
        if (!c.is.containsKey("pending offsets")) {
            return true;
        }
        int dataUna = Integer.parseInt(c.is.getOrDefault("DATA_UNA", "0"));
        StringBuilder stay = new StringBuilder();
        for (String offset : c.was.get("pending offsets").split(" ")) {
            if (Integer.parseInt(offset) >= dataUna) {
                stay.append(offset).append(' ');
            }
        }
        return c.is.get("pending offsets").equals(stay.toString().trim());
    }

    /** The records in the order of their ssn, without the first: that is the acknowledged one. */
    private static boolean otherRecordsStay(Changes c) {
        String records = "sf" + c.argument + ".records";
        String before = c.was.get(records);
        return c.is.get(records).equals(before.substring(before.indexOf(')') + 1));
    }
}
