import java.util.Map;
import java.util.function.Supplier;

/** Calls that must be refused: the answer that is due, and all that the queries show is as it was. */
final class Refused {
    private Refused() {
    }

    private static void call(MultipathStream x, String text, Supplier<Object> call, Object answer) {
        Map<String, String> before = Snapshot.of(x);
        Check.due(text, call.get(), answer);
        Check.unchanged(text + ", being refused,", before, x);
    }

    static void write(MultipathStream x, int b) {
        call(x, "write(" + b + ")", () -> x.write(b), false);
    }

    static void send(MultipathStream x, int sf, int answer) {
        call(x, "send(" + sf + ")", () -> x.send(sf), answer);
    }

    static void sendAll(MultipathStream x) {
        call(x, "sendAll()", x::sendAll, 0);
    }

    static void deliver(MultipathStream x, int sf, int answer) {
        call(x, "deliver(" + sf + ")", () -> x.deliver(sf), answer);
    }

    static void drop(MultipathStream x, int sf) {
        call(x, "drop(" + sf + ")", () -> x.drop(sf), false);
    }

    static void duplicate(MultipathStream x, int sf) {
        call(x, "duplicate(" + sf + ")", () -> x.duplicate(sf), false);
    }

    static void timeout(MultipathStream x, int sf) {
        call(x, "timeout(" + sf + ")", () -> x.timeout(sf), false);
    }

    static void fail(MultipathStream x, int sf) {
        call(x, "fail(" + sf + ")", () -> x.fail(sf), false);
    }
}
