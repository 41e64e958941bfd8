import java.util.Map;

/** Promise 5, deliver: a test for each sentence that names a boundary case, but for the coupled increase. */
public final class DeliverEdgesTest {
    public static void main(String[] args) {
        Check.sentence("makes the head segment (ssn, dsn, len) of channel sf arrive", DeliverEdgesTest::headArrives);
        Check.sentence("If sf is not 0..2, it answers R_BAD_SUBFLOW.", DeliverEdgesTest::badSubflow);
        Check.sentence("If the channel is empty, it answers R_EMPTY.", DeliverEdgesTest::emptyChannel);
        Check.sentence("These answers change nothing.", DeliverEdgesTest::bothRefusalsInAManySidedState);
        Check.sentence("The head is removed from the channel.", DeliverEdgesTest::headOfOneAndOfEight);
        Check.sentence("If ssn != rcvNxt of sf, nothing else changes and the answer is 0. (ssn above)",
            DeliverEdgesTest::ssnAbove);
        Check.sentence("If ssn != rcvNxt of sf, nothing else changes and the answer is 0. (ssn below)",
            DeliverEdgesTest::ssnBelow);
        Check.sentence("rcvNxt grows by 1.", DeliverEdgesTest::rcvNxtCounts);
        Check.sentence("if d < rcvDataNxt [..] then discarded grows by 1", DeliverEdgesTest::deliveredBytes);
        Check.sentence("or d is held, then discarded grows by 1", DeliverEdgesTest::heldBytes);
        Check.sentence("or d is held, then discarded grows by 1 (in the middle)", DeliverEdgesTest::heldInTheMiddle);
        Check.sentence("or d >= base + bufCap", DeliverEdgesTest::lastOffsetOfTheWindow);
        Check.sentence("is counted in discarded, one per byte", DeliverEdgesTest::mostDiscarded);
        Check.sentence("a segment whose ssn is not rcvNxt is thrown away uncounted",
            DeliverEdgesTest::thrownAwayUncounted);
        Check.sentence("otherwise d becomes held with the stream byte at offset d",
            DeliverEdgesTest::bytesAreTheStreams);
        Check.sentence("While rcvDataNxt is held", DeliverEdgesTest::prefixStopsAtTheGap);
        Check.sentence("it stops being held, is appended to the delivered stream, and rcvDataNxt grows by 1",
            DeliverEdgesTest::eachHeldByteIsAppended);
        Check.sentence("and rcvDataNxt grows by 1 (up to MAX_STREAM)", DeliverEdgesTest::endOfTheStream);
        Check.sentence("on a failed subflow as well", DeliverEdgesTest::failedSubflowDelivers);
        Check.sentence("Only if sf is established, the subflow ACK is processed",
            DeliverEdgesTest::establishedSubflowHasItsAck);
        Check.sentence("On a failed subflow this step does nothing.", DeliverEdgesTest::failedSubflowHasNoAck);
        Check.sentence("sndUna becomes rcvNxt, and the record of the acknowledged ssn is dropped",
            DeliverEdgesTest::firstOfEightRecords);
        Check.sentence("if sndNxt < sndUna, then sndNxt becomes sndUna", DeliverEdgesTest::sndNxtBelow);
        Check.sentence("if sndNxt < sndUna (and not otherwise)", DeliverEdgesTest::sndNxtNotBelow);
        Check.sentence("dataUna becomes rcvDataNxt.", DeliverEdgesTest::dataUnaFollows);
        Check.sentence("Pending flags below it no longer exist.", DeliverEdgesTest::pendingBelow);
        Check.sentence("pending flags of offsets at or above the new dataUna", DeliverEdgesTest::pendingAbove);
        Check.sentence("The answer is n, the number of offsets added to the delivered stream by this call (n >= 0).",
            DeliverEdgesTest::answers);
        Check.sentence("deliver never changes", DeliverEdgesTest::changesNothingElse);
        Check.end();
    }

    /** Each channel has another segment: what arrives is the one of the channel named. */
    private static void headArrives() {
        for (int sf = 0; sf < 3; sf++) {
            MultipathStream x = Make.written(9, 1, 1, 1);
            Make.send(x, 0, 4);
            Make.send(x, 1, 4);
            Make.send(x, 2, 1);
            Check.due("deliver(" + sf + ")", x.deliver(sf), sf == 0 ? 4 : 0);
            String[] held = {"", "4 5 6 7", "8"};
            Check.due("held", Snapshot.of(x).get("held offsets"), held[sf]);
            for (int other = 0; other < 3; other++) {
                Check.due("rcvNxt of " + other, x.subflow(other, MultipathStream.F_RCV_NXT), other == sf ? 1 : 0);
            }
        }
    }

    private static void badSubflow() {
        MultipathStream x = Make.manySided();
        for (int sf : Make.NO_SUBFLOWS) {
            Refused.deliver(x, sf, MultipathStream.R_BAD_SUBFLOW);
        }
        MultipathStream fresh = new MultipathStream(8, 1, 1, 1);
        for (int sf : Make.NO_SUBFLOWS) {
            Refused.deliver(fresh, sf, MultipathStream.R_BAD_SUBFLOW);
        }
        Check.due("deliver(0)", x.deliver(0), 8);
        Check.due("deliver(2)", x.deliver(2), 0);
    }

    private static void emptyChannel() {
        for (int sf = 0; sf < 3; sf++) {
            MultipathStream x = Make.written(12, 1, 1, 1);
            Make.send(x, (sf + 1) % 3, 4);
            Refused.deliver(x, sf, MultipathStream.R_EMPTY);
            Make.send(x, sf, 4);
            x.deliver(sf);
            Refused.deliver(x, sf, MultipathStream.R_EMPTY);
            Make.send(x, sf, 4);
            x.drop(sf);
            Refused.deliver(x, sf, MultipathStream.R_EMPTY);
            Make.fail(x, sf);
            Refused.deliver(x, sf, MultipathStream.R_EMPTY);
        }
    }

    private static void bothRefusalsInAManySidedState() {
        MultipathStream x = Make.manySided();
        Refused.deliver(x, 3, MultipathStream.R_BAD_SUBFLOW);
        Refused.deliver(x, -1, MultipathStream.R_BAD_SUBFLOW);
        x.drop(1);
        Refused.deliver(x, 1, MultipathStream.R_EMPTY);
        x.drop(0);
        Refused.deliver(x, 0, MultipathStream.R_EMPTY);
    }

    private static void headOfOneAndOfEight() {
        MultipathStream x = Make.written(8, 1, 1, 1);
        Make.send(x, 0, 4, 4);
        Make.duplicate(x, 0, 6);
        x.deliver(0);
        Check.due("seven are left", Snapshot.of(x).get("sf0.segments"),
            "(1 4 4)(0 0 4)(0 0 4)(0 0 4)(0 0 4)(0 0 4)(0 0 4)");
        for (int left = 6; left >= 0; left--) {
            x.deliver(0);
            Check.due("left", x.subflow(0, MultipathStream.F_CHANNEL), left);
        }
    }

    private static void onlyTheHeadGoes(MultipathStream x, int sf, String channel, String segments) {
        Map<String, String> before = Snapshot.of(x);
        Check.due("deliver(" + sf + ")", x.deliver(sf), 0);
        Check.changed("deliver(" + sf + ")", before, x, "sf" + sf + ".CHANNEL=" + channel,
            "sf" + sf + ".segments=" + segments);
    }

    private static void ssnAbove() {
        MultipathStream x = Make.written(8, 1, 1, 1);
        Make.send(x, 0, 4, 4);
        x.drop(0);
        onlyTheHeadGoes(x, 0, "0", "");

        MultipathStream wide = Make.steered("aaaaaaaaaaaaaaaaaaaaaaaaaaaaaa");
        Make.write(wide, 32);
        Make.send(wide, 1, 4, 4, 4, 4, 4, 4, 4, 4);
        for (int k = 0; k < 7; k++) {
            wide.drop(1);
        }
        // Only the last of eight is left: its ssn is seven above rcvNxt.
        onlyTheHeadGoes(wide, 1, "0", "");

        MultipathStream failed = Make.written(8, 1, 1, 1);
        Make.send(failed, 2, 4, 4);
        failed.drop(2);
        Make.fail(failed, 2);
        onlyTheHeadGoes(failed, 2, "0", "");
    }

    private static void ssnBelow() {
        MultipathStream x = Make.written(4, 1, 1, 1);
        Make.send(x, 0, 4);
        Make.duplicate(x, 0, 2);
        Check.due("deliver(0)", x.deliver(0), 4);
        onlyTheHeadGoes(x, 0, "1", "(0 0 4)");
        Make.fail(x, 0);
        onlyTheHeadGoes(x, 0, "0", "");

        // An old copy is kept in the channel while rcvNxt goes on to 256: no step takes it for a new one.
        MultipathStream old = new MultipathStream(8, 1, 1, 1);
        Make.write(old, 1);
        Make.send(old, 0, 1);
        Make.duplicate(old, 0, 1);
        Check.due("deliver(0)", old.deliver(0), 1);
        for (int ssn = 1; ssn <= 255; ssn++) {
            Make.write(old, 1);
            Make.send(old, 0, 1);
            Make.duplicate(old, 0, 1);
            String rest = Snapshot.mapping(ssn, ssn, 1) + "(0 0 1)";
            onlyTheHeadGoes(old, 0, "2", rest);
            Check.due("deliver(0) of " + ssn, old.deliver(0), 1);
        }
        Check.due("rcvNxt", old.subflow(0, MultipathStream.F_RCV_NXT), 256);
        onlyTheHeadGoes(old, 0, "0", "");
    }

    private static void rcvNxtCounts() {
        MultipathStream x = new MultipathStream(8, 1, 1, 1);
        for (int k = 0; k < 256; k++) {
            Check.due("rcvNxt", x.subflow(1, MultipathStream.F_RCV_NXT), k);
            Make.carry(x, 1, 1);
        }
        Check.due("rcvNxt", x.subflow(1, MultipathStream.F_RCV_NXT), 256);
        Check.due("sndUna", x.subflow(1, MultipathStream.F_SND_UNA), 256);
    }

    /** The first n bytes of a segment of four come a second time, being delivered. */
    private static void deliveredBytes() {
        for (int n = 1; n <= 4; n++) {
            MultipathStream x = Make.written(n, 1, 1, 1);
            Make.send(x, 0, n);
            Make.fail(x, 0);
            Make.write(x, 4 - n);
            Make.send(x, 1, 4);
            Check.due("deliver(0)", x.deliver(0), n);
            Check.due("discarded before", x.conn(MultipathStream.C_DISCARDED), 0);
            Check.due("deliver(1)", x.deliver(1), 4 - n);
            Check.due("discarded", x.conn(MultipathStream.C_DISCARDED), n);
            Check.due("held", x.conn(MultipathStream.C_HELD), 0);
            Check.due("delivered", Snapshot.of(x).get("delivered bytes"), "0:10 1:11 2:12 3:13");
        }
    }

    /** The first n bytes of a segment of four come a second time, being held behind offset 0. */
    private static void heldBytes() {
        for (int n = 1; n <= 4; n++) {
            MultipathStream x = Make.written(1, 1, 1, 1);
            Make.send(x, 2, 1);
            Make.write(x, n);
            Make.send(x, 0, n);
            Make.fail(x, 0);
            Make.write(x, 4 - n);
            Make.send(x, 1, 4);
            Check.due("deliver(0)", x.deliver(0), 0);
            Check.due("held", x.conn(MultipathStream.C_HELD), n);
            Check.due("discarded before", x.conn(MultipathStream.C_DISCARDED), 0);
            Check.due("deliver(1)", x.deliver(1), 0);
            Check.due("discarded", x.conn(MultipathStream.C_DISCARDED), n);
            Check.due("held", Snapshot.of(x).get("held offsets"), "1 2 3 4");
            Check.due("deliver(2)", x.deliver(2), 5);
            Check.due("discarded after", x.conn(MultipathStream.C_DISCARDED), n);
        }
    }

    private static void heldInTheMiddle() {
        MultipathStream x = Make.written(1, 1, 1, 1);
        Make.send(x, 2, 1);
        Make.write(x, 1);
        Make.send(x, 1, 1);
        Make.write(x, 1);
        Make.send(x, 0, 1);
        Make.fail(x, 0, 1);
        Make.write(x, 2);
        Make.send(x, 2, 4);
        Check.due("deliver(0)", x.deliver(0), 0);
        Check.due("held", Snapshot.of(x).get("held offsets"), "2");
        Check.due("deliver(2) of offset 0", x.deliver(2), 1);
        Check.due("deliver(2) of offsets 1 to 4", x.deliver(2), 4);
        Check.due("discarded", x.conn(MultipathStream.C_DISCARDED), 1);
        Check.due("deliver(1) of offset 1", x.deliver(1), 0);
        Check.due("discarded", x.conn(MultipathStream.C_DISCARDED), 2);
    }

    /**
     * The send buffer ends where the reorder window does, so no run of calls brings a byte beyond it. What can
     * be broken is its last offset, base + bufCap - 1, which must be held and not discarded.
     */
    private static void lastOffsetOfTheWindow() {
        for (int bufCap = 8; bufCap <= 32; bufCap++) {
            for (int base = 0; base <= 3; base += 3) {
                MultipathStream x = new MultipathStream(bufCap, 1, 1, 1);
                Make.carry(x, 0, base);
                Make.write(x, 1);
                Make.send(x, 0, 1);
                Make.write(x, bufCap - 1);
                int got = 0;
                for (int k = 0; k < 8 && x.send(1) > 0; k++) {
                    got += x.record(1, x.subflow(1, MultipathStream.F_SND_HIGH) - 1, MultipathStream.G_LEN);
                    Check.due("deliver(1)", x.deliver(1), 0);
                }
                Check.due("bytes held", got, bufCap - 1);
                Check.due("held", x.conn(MultipathStream.C_HELD), bufCap - 1);
                Check.due("the last", x.offset(base + bufCap - 1, MultipathStream.O_HELD), 1);
                Check.due("discarded", x.conn(MultipathStream.C_DISCARDED), 0);
                Check.due("deliver(0)", x.deliver(0), bufCap);
            }
        }
    }

    private static void mostDiscarded() {
        MultipathStream x = new MultipathStream(32, 1, 4, 4);
        int[] order = {1, 0, 2};
        for (int sf : order) {
            for (int k = 0; k < 100 && x.subflow(sf, MultipathStream.F_CWND) < 2048; k++) {
                Make.carry(x, sf, 1);
            }
        }
        Make.write(x, 32);
        // The same 32 bytes are in the channels of all three subflows.
        for (int sf = 0; sf < 3; sf++) {
            Make.send(x, sf, 4, 4, 4, 4, 4, 4, 4, 4);
            if (sf < 2) {
                Make.fail(x, sf);
            }
        }
        for (int k = 0; k < 8; k++) {
            Check.due("deliver(1)", x.deliver(1), 4);
            Check.due("discarded", x.conn(MultipathStream.C_DISCARDED), 8 * k);
            Check.due("deliver(2)", x.deliver(2), 0);
            Check.due("deliver(0)", x.deliver(0), 0);
            Check.due("discarded", x.conn(MultipathStream.C_DISCARDED), 8 * k + 8);
        }
    }

    private static void thrownAwayUncounted() {
        MultipathStream x = Make.written(8, 1, 1, 1);
        Make.send(x, 0, 4, 4);
        Make.duplicate(x, 0, 6);
        x.drop(0);
        for (int k = 0; k < 7; k++) {
            x.deliver(0);
        }
        // One above, one accepted, five below.
        Check.due("delivered", x.conn(MultipathStream.C_DELIVERED), 4);
        Check.due("discarded", x.conn(MultipathStream.C_DISCARDED), 0);
    }

    private static void bytesAreTheStreams() {
        MultipathStream x = new MultipathStream(8, 1, 1, 1);
        int[] bytes = {0, 255, 128, 127, 1, 254, 0, 200};
        for (int b : bytes) {
            x.write(b);
        }
        Make.send(x, 0, 4);
        Make.send(x, 1, 4);
        x.drop(0);
        x.timeout(0);
        Make.send(x, 0, 4);
        Check.due("deliver(1)", x.deliver(1), 0);
        Make.fail(x, 0);
        Make.send(x, 2, 4);
        Check.due("deliver(2)", x.deliver(2), 8);
        for (int d = 0; d < 8; d++) {
            Check.due("the byte at " + d, x.offset(d, MultipathStream.O_DELIVERED), bytes[d]);
        }
    }

    private static void prefixStopsAtTheGap() {
        MultipathStream x = Make.written(16, 1, 1, 1);
        Make.send(x, 0, 4);
        Make.send(x, 1, 4);
        Make.send(x, 2, 4, 4);
        Check.due("deliver(2), not at the front,", x.deliver(2), 0);
        Check.due("deliver(2), not at the front,", x.deliver(2), 0);
        Check.due("held", Snapshot.of(x).get("held offsets"), "8 9 10 11 12 13 14 15");
        Check.due("deliver(0) up to the gap", x.deliver(0), 4);
        Check.due("held", Snapshot.of(x).get("held offsets"), "8 9 10 11 12 13 14 15");
        Check.due("deliver(1) closes the gap", x.deliver(1), 12);
        Check.due("held", x.conn(MultipathStream.C_HELD), 0);
    }

    private static void eachHeldByteIsAppended() {
        for (int n = 1; n <= 4; n++) {
            MultipathStream x = Make.written(1, 1, 1, 1);
            Make.send(x, 0, 1);
            Make.write(x, n);
            Make.send(x, 1, n);
            x.deliver(1);
            Check.due("held", x.conn(MultipathStream.C_HELD), n);
            Check.due("deliver(0)", x.deliver(0), 1 + n);
            Check.due("rcvDataNxt", x.conn(MultipathStream.C_DELIVERED), 1 + n);
            for (int d = 0; d <= n; d++) {
                Check.due("held " + d, x.offset(d, MultipathStream.O_HELD), 0);
                Check.due("the byte at " + d, x.offset(d, MultipathStream.O_DELIVERED), d + 10);
            }
        }
    }

    private static void endOfTheStream() {
        MultipathStream x = new MultipathStream(8, 1, 1, 1);
        Make.carry(x, 0, 248);
        Make.write(x, 8);
        Make.send(x, 0, 4);
        Make.send(x, 1, 4);
        Check.due("deliver(1) holds the last bytes", x.deliver(1), 0);
        Check.due("held 255", x.offset(255, MultipathStream.O_HELD), 1);
        Check.due("deliver(0)", x.deliver(0), 8);
        Check.due("delivered", x.conn(MultipathStream.C_DELIVERED), 256);
        Check.due("held", x.conn(MultipathStream.C_HELD), 0);
        Check.due("the last byte", x.offset(255, MultipathStream.O_DELIVERED), 9);
        Refused.deliver(x, 0, MultipathStream.R_EMPTY);
    }

    private static void failedSubflowDelivers() {
        for (int sf = 0; sf < 3; sf++) {
            MultipathStream x = Make.written(8, 1, 1, 1);
            Make.send(x, sf, 4, 4);
            Make.fail(x, sf);
            Check.due("deliver(" + sf + ")", x.deliver(sf), 4);
            Check.due("rcvNxt", x.subflow(sf, MultipathStream.F_RCV_NXT), 1);
            Make.fail(x, (sf + 1) % 3, (sf + 2) % 3);
            Check.due("deliver(" + sf + ") with all failed", x.deliver(sf), 4);
            Check.due("delivered", x.conn(MultipathStream.C_DELIVERED), 8);
        }
    }

    /** The ACK comes to every accepted segment, also to one whose bytes are held or discarded. */
    private static void establishedSubflowHasItsAck() {
        MultipathStream x = Make.written(8, 1, 1, 1);
        Make.send(x, 0, 4);
        Make.send(x, 1, 4);
        Make.fail(x, 0);
        Make.send(x, 2, 4);
        Check.due("deliver(1) holds", x.deliver(1), 0);
        Check.due("sndUna of 1", x.subflow(1, MultipathStream.F_SND_UNA), 1);
        Check.due("deliver(0)", x.deliver(0), 8);
        Check.due("sndUna of 0, which has failed,", x.subflow(0, MultipathStream.F_SND_UNA), 0);
        Check.due("deliver(2) discards", x.deliver(2), 0);
        Check.due("sndUna of 2", x.subflow(2, MultipathStream.F_SND_UNA), 1);
        Check.due("discarded", x.conn(MultipathStream.C_DISCARDED), 4);
    }

    private static void failedSubflowHasNoAck() {
        MultipathStream x = Make.written(8, 1, 2, 3);
        Make.send(x, 1, 4);
        Make.send(x, 0, 4);
        Make.fail(x, 0);
        Map<String, String> before = Snapshot.of(x);
        Check.due("deliver(0)", x.deliver(0), 0);
        Check.changed("deliver(0)", before, x, "HELD=4", "held offsets=4 5 6 7", "sf0.RCV_NXT=1", "sf0.CHANNEL=0",
            "sf0.segments=");

        MultipathStream goneBack = Make.written(4, 1, 2, 3);
        Make.send(goneBack, 0, 4);
        goneBack.timeout(0);
        Make.fail(goneBack, 0);
        before = Snapshot.of(goneBack);
        Check.due("deliver(0)", goneBack.deliver(0), 4);
        Check.changed("deliver(0)", before, goneBack, "DATA_UNA=4", "DELIVERED=4", "PENDING=0", "pending offsets=",
            "delivered bytes=0:10 1:11 2:12 3:13", "sf0.RCV_NXT=1", "sf0.CHANNEL=0", "sf0.segments=");
    }

    private static void firstOfEightRecords() {
        MultipathStream x = Make.steered("aaaaaaaaaaaaaaaaaaaaaaaaaaaaaa");
        Make.write(x, 32);
        Make.send(x, 1, 4, 4, 4, 4, 4, 4, 4, 4);
        Check.due("sndUna", x.subflow(1, MultipathStream.F_SND_UNA), 30);
        for (int k = 0; k < 8; k++) {
            StringBuilder left = new StringBuilder();
            for (int j = k; j < 8; j++) {
                left.append(Snapshot.mapping(30 + j, 30 + 4 * j, 4));
            }
            Check.due("records", Snapshot.of(x).get("sf1.records"), left.toString());
            Check.due("deliver(1)", x.deliver(1), 4);
            Check.due("sndUna", x.subflow(1, MultipathStream.F_SND_UNA), 31 + k);
        }
        Check.due("records", Snapshot.of(x).get("sf1.records"), "");
        Check.due("sndHigh", x.subflow(1, MultipathStream.F_SND_HIGH), 38);
    }

    private static void sndNxtBelow() {
        MultipathStream x = Make.written(8, 1, 1, 1);
        Make.send(x, 0, 4, 4);
        x.timeout(0);
        x.deliver(0);
        Check.due("sndNxt is raised", x.subflow(0, MultipathStream.F_SND_NXT), 1);
        x.deliver(0);
        Check.due("sndNxt is raised to sndHigh", x.subflow(0, MultipathStream.F_SND_NXT), 2);
        Check.due("sndHigh", x.subflow(0, MultipathStream.F_SND_HIGH), 2);
        Refused.timeout(x, 0);
        Make.write(x, 4);
        Make.send(x, 0, 4);
        Check.due("the next segment is new", x.segment(0, 0, MultipathStream.G_SSN), 2);
    }

    private static void sndNxtNotBelow() {
        MultipathStream x = Make.written(8, 1, 1, 1);
        Make.send(x, 0, 4, 4);
        x.deliver(0);
        Check.due("sndNxt above sndUna stays", x.subflow(0, MultipathStream.F_SND_NXT), 2);
        x.deliver(0);
        Check.due("sndNxt at sndUna stays", x.subflow(0, MultipathStream.F_SND_NXT), 2);

        MultipathStream y = Make.written(8, 1, 1, 1);
        Make.send(y, 0, 4, 4);
        y.timeout(0);
        Make.send(y, 0, 4);
        y.deliver(0);
        Check.due("sndUna", y.subflow(0, MultipathStream.F_SND_UNA), 1);
        Check.due("sndNxt at sndUna, behind sndHigh, stays", y.subflow(0, MultipathStream.F_SND_NXT), 1);
        Check.due("sndHigh", y.subflow(0, MultipathStream.F_SND_HIGH), 2);

        MultipathStream z = Make.steered("a".repeat(30));
        Make.write(z, 16);
        Make.send(z, 1, 4, 4, 4, 4);
        z.timeout(1);
        Make.send(z, 1, 4, 4);
        z.deliver(1);
        Check.due("sndUna", z.subflow(1, MultipathStream.F_SND_UNA), 31);
        Check.due("sndNxt between sndUna and sndHigh stays", z.subflow(1, MultipathStream.F_SND_NXT), 32);
        Check.due("sndHigh", z.subflow(1, MultipathStream.F_SND_HIGH), 34);
    }

    private static void dataUnaFollows() {
        MultipathStream x = Make.written(12, 1, 1, 1);
        Make.send(x, 0, 4);
        Make.send(x, 1, 4);
        Make.send(x, 2, 4);
        int[][] steps = {{2, 0}, {0, 4}, {1, 12}};
        Make.fail(x, 1);
        for (int[] step : steps) {
            x.deliver(step[0]);
            Check.due("dataUna", x.conn(MultipathStream.C_DATA_UNA), step[1]);
            Check.due("delivered", x.conn(MultipathStream.C_DELIVERED), step[1]);
        }
    }

    private static void pendingBelow() {
        MultipathStream x = Make.written(8, 1, 1, 1);
        Make.send(x, 0, 4, 4);
        Make.fail(x, 0);
        Check.due("pending", x.conn(MultipathStream.C_PENDING), 8);
        Check.due("deliver(0)", x.deliver(0), 4);
        Check.due("pending", Snapshot.of(x).get("pending offsets"), "4 5 6 7");
        Check.due("pendings", x.conn(MultipathStream.C_PENDING), 4);
        Check.due("deliver(0)", x.deliver(0), 4);
        Check.due("pendings", x.conn(MultipathStream.C_PENDING), 0);
        Refused.send(x, 1, MultipathStream.R_NOTHING);
    }

    private static void pendingAbove() {
        MultipathStream x = Make.written(8, 1, 1, 1);
        Make.send(x, 1, 4);
        Make.send(x, 0, 4);
        Make.fail(x, 0);
        Make.write(x, 1);
        Check.due("deliver(0)", x.deliver(0), 0);
        Check.due("a held offset stays pending", Snapshot.of(x).get("pending offsets"), "4 5 6 7 8");
        Check.due("held", Snapshot.of(x).get("held offsets"), "4 5 6 7");
        Check.due("deliver(1)", x.deliver(1), 8);
        Check.due("the offset at dataUna stays pending", Snapshot.of(x).get("pending offsets"), "8");
    }

    private static void answers() {
        for (int n = 1; n <= 4; n++) {
            MultipathStream x = Make.written(n, 1, 1, 1);
            Make.send(x, 0, n);
            Check.due("deliver(0)", x.deliver(0), n);
        }
        // One byte in front and 31 held behind it: the most that one call can deliver.
        MultipathStream x = Make.written(1, 1, 1, 1);
        Make.send(x, 0, 1);
        Make.write(x, 31);
        for (int k = 0; k < 8; k++) {
            x.send(1);
            Check.due("deliver(1)", x.deliver(1), 0);
        }
        Check.due("deliver(0)", x.deliver(0), 32);
        Check.due("delivered", x.conn(MultipathStream.C_DELIVERED), 32);
    }

    private static void changesNothingElse() {
        MultipathStream x = Make.manySided();
        Map<String, String> before = Snapshot.of(x);
        Check.due("deliver(2)", x.deliver(2), 0);
        // M = 549 * 36 and S = 549 * 6 + 256 * 4: a is 69.4 rounded down.
        Check.changed("deliver(2)", before, x, "HELD=8", "held offsets=8 9 10 11 16 17 18 19", "sf2.SND_UNA=1",
            "sf2.SND_NXT=1", "sf2.RCV_NXT=1", "sf2.CHANNEL=1", "sf2.segments=(0 16 4)", "sf2.records=",
            "sf2.CWND=325");
        before = Snapshot.of(x);
        Check.due("deliver(0)", x.deliver(0), 8);
        Check.changed("deliver(0)", before, x, "DATA_UNA=12", "DELIVERED=12", "HELD=4", "PENDING=1",
            "held offsets=16 17 18 19", "pending offsets=20", "sf0.RCV_NXT=2", "sf0.CHANNEL=0", "sf0.segments=",
            "delivered bytes=0:10 1:11 2:12 3:13 4:14 5:15 6:16 7:17 8:18 9:19 10:20 11:21");
    }
}
