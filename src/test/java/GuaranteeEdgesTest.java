/** "Lasting guarantee": a test for each of its sentences, after every call of many rows of calls and in plain runs. */
public final class GuaranteeEdgesTest {
    public static void main(String[] args) {
        Check.sentence("conn(C_DELIVERED) <= conn(C_WRITTEN).", GuaranteeEdgesTest::deliveredIsWritten);
        Check.sentence("For every k with 0 <= k < conn(C_DELIVERED), offset(k, O_DELIVERED) == offset(k, O_WRITTEN).",
            GuaranteeEdgesTest::deliveredBytesAreTheWritten);
        Check.sentence("No call lowers conn(C_DELIVERED).", GuaranteeEdgesTest::neverLowered);
        Check.sentence("No call changes offset(k, O_DELIVERED) for any k already below conn(C_DELIVERED) before the "
            + "call.", GuaranteeEdgesTest::bytesStay);
        Check.sentence("Every call other than deliver leaves conn(C_DELIVERED) unchanged.",
            GuaranteeEdgesTest::onlyDeliverRaises);
        Check.sentence("A deliver call answering n >= 0 raises conn(C_DELIVERED) by exactly n.",
            GuaranteeEdgesTest::deliverRaisesByItsAnswer);
        Check.sentence("each offset is delivered at most once, and a delivered byte never changes afterwards",
            GuaranteeEdgesTest::wholeStreamThroughEveryTrouble);
        Check.sentence("Every argument of every method may be any int.", GuaranteeEdgesTest::anyInt);
        Check.sentence("A refused call changes nothing at all.", GuaranteeEdgesTest::refusedCallsLeaveNoTrace);
        Check.end();
    }

    private static int delivered(MultipathStream x) {
        return x.conn(MultipathStream.C_DELIVERED);
    }

    private static void deliveredIsWritten() {
        Rows.afterEveryCall(step -> delivered(step.x) <= step.x.conn(MultipathStream.C_WRITTEN));
    }

    private static void deliveredBytesAreTheWritten() {
        Rows.afterEveryCall(step -> {
            boolean same = true;
            for (int k = 0; k < delivered(step.x); k++) {
                int b = step.x.offset(k, MultipathStream.O_DELIVERED);
                same &= b >= 0 && b == step.x.offset(k, MultipathStream.O_WRITTEN);
            }
            return same;
        });
    }

    private static void neverLowered() {
        Rows.afterEveryCall(step -> delivered(step.x) >= step.deliveredBefore);
    }

    private static void bytesStay() {
        Rows.afterEveryCall(step -> {
            boolean same = true;
            for (int k = 0; k < step.deliveredBefore; k++) {
                same &= step.x.offset(k, MultipathStream.O_DELIVERED) == step.bytesBefore[k];
            }
            return same;
        });
    }

    private static void onlyDeliverRaises() {
        Rows.afterEveryCall(step -> step.calls.call == Calls.DELIVER || delivered(step.x) == step.deliveredBefore);
    }

    private static void deliverRaisesByItsAnswer() {
        Rows.afterEveryCall(step -> step.calls.call != Calls.DELIVER
            || delivered(step.x) == step.deliveredBefore + (step.answer > 0 ? step.answer : 0));
    }

    /** 256 bytes with a loss, a copy and a timeout on every round, and two failures on the way. */
    private static void wholeStreamThroughEveryTrouble() {
        MultipathStream x = new MultipathStream(16, 2, 1, 3);
        int answers = 0;
        for (int round = 0; round < 2000 && delivered(x) < 256; round++) {
            for (int k = 0; k < 16; k++) {
                x.write(x.conn(MultipathStream.C_WRITTEN) * 7);
            }
            x.sendAll();
            for (int sf = 0; sf < 3; sf++) {
                x.duplicate(sf);
                if ((round + sf) % 3 == 0) {
                    x.drop(sf);
                }
                for (int size = x.subflow(sf, MultipathStream.F_CHANNEL); size > 0; size--) {
                    answers += x.deliver(sf);
                }
                x.timeout(sf);
            }
            if (round == 5 || round == 15) {
                x.write(1);
                x.sendAll();
                Check.due("a failure", x.fail(round == 5 ? 1 : 0), true);
            }
        }
        Check.due("delivered", delivered(x), 256);
        Check.due("the answers of deliver together", answers, 256);
        for (int k = 0; k < 256; k++) {
            Check.due("byte " + k, x.offset(k, MultipathStream.O_DELIVERED), x.offset(k, MultipathStream.O_WRITTEN));
        }
    }

    private static final int[] ANY = {
        Integer.MIN_VALUE, Integer.MIN_VALUE + 1, -(1 << 30), -(1 << 29), -65536, -257, -256, -9, -8, -3, -2, -1,
        0, 1, 2, 3, 4, 7, 8, 9, 31, 32, 33, 255, 256, 257, 65536, 1 << 28, 1 << 29, (1 << 29) + 1, 1 << 30,
        Integer.MAX_VALUE - 8, Integer.MAX_VALUE - 1, Integer.MAX_VALUE
    };

    private static void anyInt() {
        for (int a : ANY) {
            for (int b : ANY) {
                MultipathStream x = new MultipathStream(a, b, a, b);
                Check.due("written", x.conn(MultipathStream.C_WRITTEN), 0);
                everyCall(x, a, b);
                everyCall(x, b, a);
            }
        }
    }

    private static void everyCall(MultipathStream x, int a, int b) {
        boolean none = a < 0 || a > 2;
        Check.due("write", x.write(a), true);
        Check.holds("send", none == (x.send(a) == MultipathStream.R_BAD_SUBFLOW));
        x.sendAll();
        Check.holds("segment", !none && b >= 0 && b <= 2 || x.segment(a, b, b) == -1);
        Check.holds("record", !none && b >= 0 || x.record(a, b, a) == -1);
        Check.holds("duplicate", !none || !x.duplicate(a));
        Check.holds("drop", !none || !x.drop(a));
        Check.holds("timeout", !none || !x.timeout(a));
        Check.holds("deliver", none == (x.deliver(a) == MultipathStream.R_BAD_SUBFLOW));
        Check.holds("fail", !none || !x.fail(a));
        Check.due("subflow", x.subflow(a, b) == -1, none || b < 0 || b > 7);
        Check.due("conn", x.conn(a) == -1, a < 0 || a > 8);
        Check.holds("offset", a >= 0 && a <= 255 && b >= 0 && b <= 3 || x.offset(a, b) == -1);
    }

    /** Beside what the queries show: an object with refused calls between all others goes on like one without. */
    private static void refusedCallsLeaveNoTrace() {
        for (int number = 0; number < 40; number++) {
            Calls calls = new Calls(number);
            int[] arguments = new int[4];
            MultipathStream x = calls.fresh(arguments);
            MultipathStream y = new MultipathStream(arguments[0], arguments[1], arguments[2], arguments[3]);
            for (int k = 0; k < 500; k++) {
                calls.next();
                Check.due("row " + number + ", call " + k + ", " + calls.text(), calls.answer(x), calls.answer(y));
                refusals(x, Make.NO_SUBFLOWS[k % Make.NO_SUBFLOWS.length]);
            }
            Check.due("row " + number + ", at its end", Snapshot.of(x), Snapshot.of(y));
        }
    }

    /** Every call that the state, as the queries show it, must refuse. */
    private static void refusals(MultipathStream x, int none) {
        int size = x.conn(MultipathStream.C_WRITTEN) - x.conn(MultipathStream.C_DATA_UNA);
        if (x.conn(MultipathStream.C_WRITTEN) == 256 || size == x.conn(MultipathStream.C_BUF_CAP)) {
            Refused.write(x, none);
        }
        refusalsOf(x, none);
        boolean noneSends = true;
        for (int sf = 0; sf < 3; sf++) {
            int refusal = refusalOfSend(x, sf);
            noneSends &= refusal != 0;
            if (refusal != 0) {
                Refused.send(x, sf, refusal);
            }
            refusalsOn(x, sf);
        }
        if (noneSends) {
            Refused.sendAll(x);
        }
    }

    private static void refusalsOf(MultipathStream x, int none) {
        Refused.send(x, none, MultipathStream.R_BAD_SUBFLOW);
        Refused.deliver(x, none, MultipathStream.R_BAD_SUBFLOW);
        Refused.drop(x, none);
        Refused.duplicate(x, none);
        Refused.timeout(x, none);
        Refused.fail(x, none);
    }

    private static int refusalOfSend(MultipathStream x, int sf) {
        int una = x.subflow(sf, MultipathStream.F_SND_UNA);
        int nxt = x.subflow(sf, MultipathStream.F_SND_NXT);
        if (x.subflow(sf, MultipathStream.F_STATE) == MultipathStream.S_FAILED) {
            return MultipathStream.R_FAILED;
        }
        if (nxt - una >= Math.min(8, x.subflow(sf, MultipathStream.F_CWND) / 256)) {
            return MultipathStream.R_WINDOW;
        }
        if (x.subflow(sf, MultipathStream.F_CHANNEL) == 8) {
            return MultipathStream.R_CHANNEL_FULL;
        }
        boolean nothing = nxt == x.subflow(sf, MultipathStream.F_SND_HIGH) && x.conn(MultipathStream.C_PENDING) == 0;
        return nothing ? MultipathStream.R_NOTHING : 0;
    }

    private static void refusalsOn(MultipathStream x, int sf) {
        boolean failed = x.subflow(sf, MultipathStream.F_STATE) == MultipathStream.S_FAILED;
        boolean idle = x.subflow(sf, MultipathStream.F_SND_HIGH) == x.subflow(sf, MultipathStream.F_SND_UNA);
        int size = x.subflow(sf, MultipathStream.F_CHANNEL);
        if (size == 0) {
            Refused.deliver(x, sf, MultipathStream.R_EMPTY);
            Refused.drop(x, sf);
        }
        if (size == 0 || size == 8) {
            Refused.duplicate(x, sf);
        }
        if (failed || idle) {
            Refused.timeout(x, sf);
        }
        if (failed) {
            Refused.fail(x, sf);
        }
    }
}
