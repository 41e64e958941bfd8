import java.util.Map;

/** Promise 3, send: a test for each sentence that names a boundary case. */
public final class SendEdgesTest {
    public static void main(String[] args) {
        Check.sentence("send(int sf) puts one segment into the channel of subflow sf.", SendEdgesTest::oneSegment);
        Check.sentence("If sf is not 0..2, it answers R_BAD_SUBFLOW.", SendEdgesTest::badSubflow);
        Check.sentence("If the subflow is failed, it answers R_FAILED.", SendEdgesTest::failed);
        Check.sentence("If sndNxt - sndUna >= window, it answers R_WINDOW.", SendEdgesTest::windowFull);
        Check.sentence("If the channel holds CHANNEL_CAP segments, it answers R_CHANNEL_FULL.",
            SendEdgesTest::channelFull);
        Check.sentence("Otherwise, if no offset d with dataUna <= d < written is pending, it answers R_NOTHING.",
            SendEdgesTest::nothingPending);
        Check.sentence("It tests, in order (1 before all)", SendEdgesTest::badComesFirst);
        Check.sentence("It tests, in order (2 before 3, 4, 5 and 6)", SendEdgesTest::failedComesSecond);
        Check.sentence("It tests, in order (3 before 4, 5 and 6)", SendEdgesTest::windowComesThird);
        Check.sentence("It tests, in order (4 before 5 and 6)", SendEdgesTest::channelComesFourth);
        Check.sentence("It tests, in order (5 before 6 and 7)", SendEdgesTest::retransmissionComesFifth);
        Check.sentence("If sndNxt < sndHigh, it retransmits", SendEdgesTest::upToTheLastRecord);
        Check.sentence("a copy of the record with ssn = sndNxt is appended to the channel tail",
            SendEdgesTest::copyGoesToTheTail);
        Check.sentence("the record (ssn, dsn, len) of the segment first made with that ssn",
            SendEdgesTest::shortRecordStaysShort);
        Check.sentence("a copy of the record (with bytes that are delivered already)",
            SendEdgesTest::deliveredRecordGoesOutWhole);
        Check.sentence("sndNxt grows by 1 (and not sndHigh)", SendEdgesTest::retransmissionRaisesSndNxt);
        Check.sentence("pending flags do not change", SendEdgesTest::retransmissionLeavesPending);
        Check.sentence("dsn is the least pending offset", SendEdgesTest::leastPending);
        Check.sentence("len is the number of consecutive pending offsets starting at dsn, at most MSS",
            SendEdgesTest::lengths);
        Check.sentence("consecutive pending offsets (up to a gap)", SendEdgesTest::stopsAtAGap);
        Check.sentence("consecutive pending offsets (of several records)", SendEdgesTest::joinsOldSegments);
        Check.sentence("dataUna <= d < written (the last byte of the stream)", SendEdgesTest::endOfTheStream);
        Check.sentence("the pending flags of dsn .. dsn+len-1 are cleared", SendEdgesTest::clearsNoOtherFlag);
        Check.sentence("the record (sndHigh, dsn, len) is kept, and that segment is appended to the channel tail",
            SendEdgesTest::everySsnOfTheStream);
        Check.sentence("sndNxt and sndHigh each grow by 1", SendEdgesTest::countersGrow);
        Check.sentence("sent grows by 1", SendEdgesTest::sentCountsFar);
        Check.sentence("the answer is the segment's len (1..MSS)", SendEdgesTest::answersTheLength);
        Check.sentence("Answers R_BAD_SUBFLOW, R_FAILED, R_WINDOW, R_CHANNEL_FULL and R_NOTHING change nothing.",
            SendEdgesTest::everyRefusalInAManySidedState);
        Check.sentence("send never changes", SendEdgesTest::changesNothingElse);
        Check.end();
    }

    private static void oneSegment() {
        for (int sf = 0; sf < 3; sf++) {
            MultipathStream x = Make.written(8, 1, 2, 3);
            for (int size = 1; size <= 2; size++) {
                Make.send(x, sf, 4);
                for (int other = 0; other < 3; other++) {
                    Check.due("segments on " + other + " after " + size + " sends on " + sf,
                        x.subflow(other, MultipathStream.F_CHANNEL), other == sf ? size : 0);
                }
            }
        }
    }

    private static void badSubflow() {
        MultipathStream x = Make.written(32, 1, 1, 1);
        for (int sf : Make.NO_SUBFLOWS) {
            Refused.send(x, sf, MultipathStream.R_BAD_SUBFLOW);
        }
        Make.send(x, 0, 4);
        Make.send(x, 2, 4);
    }

    private static void failed() {
        for (int sf = 0; sf < 3; sf++) {
            MultipathStream x = Make.written(32, 1, 1, 1);
            Make.fail(x, sf);
            Refused.send(x, sf, MultipathStream.R_FAILED);
            Make.send(x, (sf + 1) % 3, 4);
            Make.send(x, (sf + 2) % 3, 4);
        }
    }

    private static void windowFull() {
        for (int sf = 0; sf < 3; sf++) {
            MultipathStream x = Make.written(32, 1, 1, 1);
            Make.send(x, sf, 4, 4);
            Refused.send(x, sf, MultipathStream.R_WINDOW);
            x.drop(sf);
            x.drop(sf);
            Refused.send(x, sf, MultipathStream.R_WINDOW);
            x.timeout(sf);
            Make.send(x, sf, 4);
            Refused.send(x, sf, MultipathStream.R_WINDOW);
            x.deliver(sf);
            Make.send(x, sf, 4);
            Refused.send(x, sf, MultipathStream.R_WINDOW);
        }
    }

    private static void channelFull() {
        for (int sf = 0; sf < 3; sf++) {
            MultipathStream x = Make.written(32, 1, 1, 1);
            Make.send(x, sf, 4);
            Make.duplicate(x, sf, 6);
            Make.send(x, sf, 4);
            Check.due("channel", x.subflow(sf, MultipathStream.F_CHANNEL), 8);
            MultipathStream y = Make.written(32, 1, 1, 1);
            Make.send(y, sf, 4);
            Make.fillChannel(y, sf);
            Refused.send(y, sf, MultipathStream.R_CHANNEL_FULL);
            y.drop(sf);
            Make.send(y, sf, 4);
        }
    }

    private static void nothingPending() {
        MultipathStream x = new MultipathStream(8, 1, 1, 1);
        Refused.send(x, 0, MultipathStream.R_NOTHING);
        Make.write(x, 4);
        Make.send(x, 0, 4);
        Refused.send(x, 0, MultipathStream.R_NOTHING);
        Refused.send(x, 2, MultipathStream.R_NOTHING);
        x.deliver(0);
        Refused.send(x, 0, MultipathStream.R_NOTHING);

        MultipathStream whole = Make.wholeStream();
        Refused.send(whole, 0, MultipathStream.R_NOTHING);
        Refused.send(whole, 1, MultipathStream.R_NOTHING);

        MultipathStream y = Make.written(4, 1, 1, 1);
        Make.send(y, 0, 4);
        Make.fail(y, 0);
        Check.due("deliver(0) brings all that was pending", y.deliver(0), 4);
        Refused.send(y, 1, MultipathStream.R_NOTHING);
    }

    private static void badComesFirst() {
        MultipathStream nothing = new MultipathStream(8, 1, 1, 1);
        MultipathStream allFailed = Make.written(8, 1, 1, 1);
        Make.fail(allFailed, 0, 1, 2);
        MultipathStream full = Make.written(32, 1, 1, 1);
        full.sendAll();
        for (int sf = 0; sf < 3; sf++) {
            Make.fillChannel(full, sf);
        }
        for (int sf : Make.NO_SUBFLOWS) {
            Refused.send(nothing, sf, MultipathStream.R_BAD_SUBFLOW);
            Refused.send(allFailed, sf, MultipathStream.R_BAD_SUBFLOW);
            Refused.send(full, sf, MultipathStream.R_BAD_SUBFLOW);
        }
    }

    private static void failedComesSecond() {
        MultipathStream window = Make.written(32, 1, 1, 1);
        Make.send(window, 1, 4, 4);
        Refused.send(window, 1, MultipathStream.R_WINDOW);
        Make.fail(window, 1);
        Refused.send(window, 1, MultipathStream.R_FAILED);

        MultipathStream channel = Make.written(32, 1, 1, 1);
        Make.send(channel, 1, 4);
        Make.fillChannel(channel, 1);
        Refused.send(channel, 1, MultipathStream.R_CHANNEL_FULL);
        Make.fail(channel, 1);
        Refused.send(channel, 1, MultipathStream.R_FAILED);

        MultipathStream goneBack = Make.written(32, 1, 1, 1);
        Make.send(goneBack, 1, 4);
        goneBack.timeout(1);
        Make.fail(goneBack, 1);
        Refused.send(goneBack, 1, MultipathStream.R_FAILED);

        MultipathStream nothing = new MultipathStream(8, 1, 1, 1);
        Refused.send(nothing, 1, MultipathStream.R_NOTHING);
        Make.fail(nothing, 1);
        Refused.send(nothing, 1, MultipathStream.R_FAILED);
    }

    private static void windowComesThird() {
        MultipathStream channel = Make.written(32, 1, 1, 1);
        Make.send(channel, 0, 4, 4);
        Make.fillChannel(channel, 0);
        Refused.send(channel, 0, MultipathStream.R_WINDOW);

        MultipathStream goneBack = Make.written(32, 1, 1, 1);
        Make.send(goneBack, 0, 4, 4);
        goneBack.timeout(0);
        Make.send(goneBack, 0, 4);
        Check.due("sndNxt", goneBack.subflow(0, MultipathStream.F_SND_NXT), 1);
        Check.due("sndHigh", goneBack.subflow(0, MultipathStream.F_SND_HIGH), 2);
        Refused.send(goneBack, 0, MultipathStream.R_WINDOW);

        MultipathStream nothing = Make.written(8, 1, 1, 1);
        Make.send(nothing, 0, 4, 4);
        Check.due("pending", nothing.conn(MultipathStream.C_PENDING), 0);
        Refused.send(nothing, 0, MultipathStream.R_WINDOW);
        Make.fillChannel(nothing, 0);
        Refused.send(nothing, 0, MultipathStream.R_WINDOW);
    }

    private static void channelComesFourth() {
        MultipathStream goneBack = Make.written(32, 1, 1, 1);
        Make.send(goneBack, 2, 4);
        Make.fillChannel(goneBack, 2);
        goneBack.timeout(2);
        Refused.send(goneBack, 2, MultipathStream.R_CHANNEL_FULL);

        MultipathStream nothing = Make.written(4, 1, 1, 1);
        Make.send(nothing, 2, 4);
        Make.fillChannel(nothing, 2);
        Check.due("pending", nothing.conn(MultipathStream.C_PENDING), 0);
        Refused.send(nothing, 2, MultipathStream.R_CHANNEL_FULL);
    }

    private static void retransmissionComesFifth() {
        MultipathStream nothing = Make.written(3, 1, 1, 1);
        Make.send(nothing, 0, 3);
        nothing.timeout(0);
        Check.due("a retransmission with nothing pending", nothing.send(0), 3);

        MultipathStream pending = Make.written(7, 1, 1, 1);
        Make.send(pending, 0, 4);
        pending.timeout(0);
        Check.due("a retransmission with three bytes pending", pending.send(0), 4);
        Check.due("it is the record", pending.segment(0, 1, MultipathStream.G_DSN), 0);
        Check.due("sndHigh", pending.subflow(0, MultipathStream.F_SND_HIGH), 1);
    }

    private static void upToTheLastRecord() {
        MultipathStream x = Make.steered("aaaaaaaaaaaaaaaaaaaaaaaaaaaaaa");
        Check.due("cwnd", x.subflow(1, MultipathStream.F_CWND), 2062);
        Make.write(x, 32);
        Make.send(x, 1, 4, 4, 4);
        x.timeout(1);
        // The halved window still has room for four: three records, then one new segment.
        Make.send(x, 1, 4, 4);
        Check.due("sndNxt is one below sndHigh", x.subflow(1, MultipathStream.F_SND_NXT), 32);
        Make.send(x, 1, 4);
        Check.due("sndHigh stays", x.subflow(1, MultipathStream.F_SND_HIGH), 33);
        Check.due("sent", x.conn(MultipathStream.C_SENT), 36);
        Make.send(x, 1, 4);
        Check.due("a new segment follows", x.subflow(1, MultipathStream.F_SND_HIGH), 34);
        Check.due("its dsn", x.segment(1, 6, MultipathStream.G_DSN), 42);
        Refused.send(x, 1, MultipathStream.R_WINDOW);
    }

    private static void copyGoesToTheTail() {
        MultipathStream x = Make.written(5, 1, 1, 1);
        Make.send(x, 0, 4, 1);
        Make.duplicate(x, 0, 1);
        x.timeout(0);
        Map<String, String> before = Snapshot.of(x);
        Make.send(x, 0, 4);
        Check.changed("the retransmission", before, x, "SENT=3", "sf0.SND_NXT=1", "sf0.CHANNEL=4",
            "sf0.segments=(0 0 4)(1 4 1)(0 0 4)(0 0 4)");
        x.deliver(0);
        before = Snapshot.of(x);
        Make.send(x, 0, 1);
        Check.changed("the second retransmission", before, x, "SENT=4", "sf0.SND_NXT=2", "sf0.CHANNEL=4",
            "sf0.segments=(1 4 1)(0 0 4)(0 0 4)(1 4 1)");
    }

    private static void shortRecordStaysShort() {
        MultipathStream x = Make.written(1, 1, 1, 1);
        Make.send(x, 0, 1);
        Make.write(x, 7);
        x.timeout(0);
        Check.due("the retransmission is no longer than the first", x.send(0), 1);
        Check.due("its len", x.segment(0, 1, MultipathStream.G_LEN), 1);
        Check.due("pending", x.conn(MultipathStream.C_PENDING), 7);
    }

    private static void deliveredRecordGoesOutWhole() {
        MultipathStream x = Make.written(4, 1, 1, 1);
        Make.send(x, 0, 4);
        Make.fail(x, 0);
        Make.send(x, 1, 4);
        Check.due("the failed path brings the bytes", x.deliver(0), 4);
        x.timeout(1);
        Map<String, String> before = Snapshot.of(x);
        Check.due("the record goes out all the same", x.send(1), 4);
        Check.changed("the retransmission", before, x, "SENT=3", "sf1.SND_NXT=1", "sf1.CHANNEL=2",
            "sf1.segments=(0 0 4)(0 0 4)");
    }

    private static void retransmissionLeavesPending() {
        MultipathStream x = Make.written(8, 1, 1, 1);
        Make.send(x, 0, 4);
        Make.send(x, 1, 4);
        Make.write(x, 3);
        Make.fail(x, 1);
        x.timeout(0);
        Map<String, String> before = Snapshot.of(x);
        Check.due("pending", before.get("pending offsets"), "4 5 6 7 8 9 10");
        Make.send(x, 0, 4);
        Check.changed("the retransmission", before, x, "SENT=3", "sf0.SND_NXT=1", "sf0.CHANNEL=2",
            "sf0.segments=(0 0 4)(0 0 4)");
    }

    private static void leastPending() {
        MultipathStream x = Make.written(16, 1, 1, 1);
        Make.send(x, 0, 4);
        Make.send(x, 1, 4);
        Make.send(x, 2, 4);
        Make.fail(x, 1);
        Make.send(x, 2, 4);
        Check.due("the reinjected bytes come before the new ones", x.segment(2, 1, MultipathStream.G_DSN), 4);
        Make.fail(x, 0);
        x.deliver(2);
        Make.send(x, 2, 4);
        Check.due("offset 0 is the least", x.segment(2, 1, MultipathStream.G_DSN), 0);

        MultipathStream y = Make.written(8, 1, 1, 1);
        Make.send(y, 0, 4);
        Make.fail(y, 0);
        Check.due("deliver(0)", y.deliver(0), 4);
        Make.send(y, 1, 4);
        Check.due("delivered offsets are pending no more", y.segment(1, 0, MultipathStream.G_DSN), 4);
    }

    private static void lengths() {
        for (int n = 1; n <= 9; n++) {
            MultipathStream x = Make.written(n, 1, 1, 1);
            int len = n < 4 ? n : 4;
            Check.due("send with " + n + " pending", x.send(1), len);
            Check.due("the segment's len", x.segment(1, 0, MultipathStream.G_LEN), len);
            Check.due("the record's len", x.record(1, 0, MultipathStream.G_LEN), len);
            Check.due("pending", x.conn(MultipathStream.C_PENDING), n - len);
        }
    }

    private static void stopsAtAGap() {
        for (int run = 1; run <= 3; run++) {
            MultipathStream x = Make.written(run, 1, 1, 1);
            Make.send(x, 0, run);
            Make.write(x, 1);
            Make.send(x, 1, 1);
            Make.write(x, 4);
            Make.fail(x, 0);
            Map<String, String> before = Snapshot.of(x);
            Check.due("send(2) before the gap", x.send(2), run);
            Check.changed("send(2) before the gap", before, x, "PENDING=4", "SENT=3",
                "pending offsets=" + (run + 1) + " " + (run + 2) + " " + (run + 3) + " " + (run + 4),
                "sf2.SND_NXT=1", "sf2.SND_HIGH=1", "sf2.CHANNEL=1",
                "sf2.segments=" + Snapshot.mapping(0, 0, run), "sf2.records=" + Snapshot.mapping(0, 0, run));
            Check.due("send(2) after the gap", x.send(2), 4);
            Check.due("its dsn", x.segment(2, 1, MultipathStream.G_DSN), run + 1);
        }
    }

    private static void joinsOldSegments() {
        MultipathStream x = new MultipathStream(8, 1, 1, 1);
        Make.write(x, 1);
        Make.send(x, 0, 1);
        Make.write(x, 2);
        Make.send(x, 0, 2);
        Make.fail(x, 0);
        Make.write(x, 2);
        Check.due("two old segments and a new byte are one segment", x.send(1), 4);
        Check.due("its dsn", x.segment(1, 0, MultipathStream.G_DSN), 0);
        Check.due("pending", x.conn(MultipathStream.C_PENDING), 1);
    }

    private static void endOfTheStream() {
        for (int n = 1; n <= 5; n++) {
            MultipathStream x = new MultipathStream(8, 1, 1, 1);
            Make.carry(x, 0, 256 - n);
            Make.write(x, n);
            int len = n < 4 ? n : 4;
            Check.due("send of the last " + n + " bytes", x.send(0), len);
            Check.due("its dsn", x.segment(0, 0, MultipathStream.G_DSN), 256 - n);
            Check.due("its len", x.segment(0, 0, MultipathStream.G_LEN), len);
            if (n == 5) {
                Make.send(x, 0, 1);
                Check.due("the dsn of the last byte", x.segment(0, 1, MultipathStream.G_DSN), 255);
            }
            Refused.send(x, 1, MultipathStream.R_NOTHING);
        }
    }

    private static void clearsNoOtherFlag() {
        MultipathStream x = Make.manySided();
        Map<String, String> before = Snapshot.of(x);
        Make.send(x, 1, 4);
        Check.changed("send(1)", before, x, "PENDING=1", "SENT=6", "pending offsets=20", "sf1.SND_NXT=3",
            "sf1.SND_HIGH=3", "sf1.CHANNEL=2", "sf1.segments=(1 12 4)(2 4 4)", "sf1.records=(1 12 4)(2 4 4)");
    }

    private static void everySsnOfTheStream() {
        MultipathStream x = Make.alone(2);
        for (int ssn = 0; ssn < 255; ssn++) {
            Make.write(x, ssn == 0 ? 2 : 1);
            Make.send(x, 2, ssn == 0 ? 2 : 1);
            int dsn = ssn == 0 ? 0 : ssn + 1;
            int len = ssn == 0 ? 2 : 1;
            Check.due("the segment", Snapshot.of(x).get("sf2.segments"), Snapshot.mapping(ssn, dsn, len));
            Check.due("the record", Snapshot.of(x).get("sf2.records"), Snapshot.mapping(ssn, dsn, len));
            Check.due("it arrives", x.deliver(2), len);
        }
    }

    private static void retransmissionRaisesSndNxt() {
        MultipathStream x = Make.steered("a".repeat(30));
        Make.write(x, 16);
        Make.send(x, 1, 4, 4, 4, 4);
        x.timeout(1);
        for (int k = 0; k < 4; k++) {
            Check.due("sndNxt", x.subflow(1, MultipathStream.F_SND_NXT), 30 + k);
            Make.send(x, 1, 4);
            Check.due("sndHigh", x.subflow(1, MultipathStream.F_SND_HIGH), 34);
        }
        Check.due("sndNxt", x.subflow(1, MultipathStream.F_SND_NXT), 34);
    }

    private static void countersGrow() {
        MultipathStream x = Make.written(12, 1, 1, 1);
        for (int k = 0; k < 2; k++) {
            Check.due("sndNxt", x.subflow(0, MultipathStream.F_SND_NXT), k);
            Check.due("sndHigh", x.subflow(0, MultipathStream.F_SND_HIGH), k);
            Make.send(x, 0, 4);
        }
        Check.due("sndNxt", x.subflow(0, MultipathStream.F_SND_NXT), 2);
        Check.due("sndHigh", x.subflow(0, MultipathStream.F_SND_HIGH), 2);
        Check.due("sndUna", x.subflow(0, MultipathStream.F_SND_UNA), 0);
    }

    private static void sentCountsFar() {
        MultipathStream x = Make.written(4, 1, 1, 1);
        for (int k = 1; k <= 70000; k++) {
            Check.due("send(0)", x.send(0), 4);
            Check.due("sent", x.conn(MultipathStream.C_SENT), k);
            x.timeout(0);
            x.drop(0);
        }
    }

    private static void answersTheLength() {
        MultipathStream x = new MultipathStream(32, 1, 1, 1);
        for (int len = 1; len <= 4; len++) {
            Make.write(x, len);
            Check.due("a new segment", x.send(0), len);
            x.timeout(0);
            Check.due("the same again", x.send(0), len);
            x.deliver(0);
            x.drop(0);
        }
    }

    private static void everyRefusalInAManySidedState() {
        MultipathStream x = Make.manySided();
        Refused.send(x, 3, MultipathStream.R_BAD_SUBFLOW);
        Refused.send(x, 0, MultipathStream.R_FAILED);
        Make.send(x, 1, 4);
        Refused.send(x, 1, MultipathStream.R_WINDOW);
        Make.fillChannel(x, 2);
        Refused.send(x, 2, MultipathStream.R_CHANNEL_FULL);
        x.deliver(1);
        Make.send(x, 1, 1);
        x.deliver(1);
        Refused.send(x, 1, MultipathStream.R_NOTHING);
    }

    private static void changesNothingElse() {
        MultipathStream x = Make.manySided();
        Map<String, String> before = Snapshot.of(x);
        Make.send(x, 2, 4);
        Check.changed("send(2), a retransmission,", before, x, "SENT=6", "sf2.SND_NXT=1", "sf2.CHANNEL=3",
            "sf2.segments=(0 16 4)(0 16 4)(0 16 4)");
        x.deliver(2);
        before = Snapshot.of(x);
        Make.send(x, 2, 4);
        Check.changed("send(2), a new segment,", before, x, "SENT=7", "PENDING=1", "pending offsets=20",
            "sf2.SND_NXT=2", "sf2.SND_HIGH=2", "sf2.CHANNEL=3", "sf2.segments=(0 16 4)(0 16 4)(1 4 4)",
            "sf2.records=(1 4 4)");
    }
}
