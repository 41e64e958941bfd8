import java.util.Map;

/** Promise 2, write: a test for each sentence that names a boundary case. */
public final class WriteEdgesTest {
    public static void main(String[] args) {
        Check.sentence("so any int, negative ones included, gives a byte 0..255", WriteEdgesTest::anyInt);
        Check.sentence("If written == MAX_STREAM, it answers false.", WriteEdgesTest::streamFull);
        Check.sentence("where written <= MAX_STREAM (256)", WriteEdgesTest::lastByteOfTheStream);
        Check.sentence("If written - dataUna == bufCap (the send buffer is full), it answers false.",
            WriteEdgesTest::bufferFull);
        Check.sentence("The send buffer is the offsets dataUna .. written-1.", WriteEdgesTest::onlyAcknowledgedFree);
        Check.sentence("Its size, written - dataUna, never exceeds bufCap.", WriteEdgesTest::lastPlaceOfTheBuffer);
        Check.sentence("It tests, in order", WriteEdgesTest::bothFull);
        Check.sentence("A false answer changes nothing.", WriteEdgesTest::refusedByteIsGone);
        Check.sentence("the byte is stored at offset written", WriteEdgesTest::firstAndLastOffset);
        Check.sentence("its pending flag is set", WriteEdgesTest::pendingAtBothEnds);
        Check.sentence("written grows by 1", WriteEdgesTest::writtenCounts);
        Check.sentence("the call answers true", WriteEdgesTest::answersTrue);
        Check.sentence("No subflow, channel, counter, held offset or delivered byte changes.",
            WriteEdgesTest::changesNothingElse);
        Check.end();
    }

    private static void anyInt() {
        int[] far = {
            Integer.MIN_VALUE, Integer.MIN_VALUE + 1, Integer.MIN_VALUE + 255, -65536, -65535, -257, 65535, 65536,
            (1 << 24) + 200, Integer.MAX_VALUE - 255, Integer.MAX_VALUE - 1, Integer.MAX_VALUE
        };
        for (int b : far) {
            byteIs(b, Math.floorMod(b, 256));
        }
        for (int b = -520; b <= 520; b++) {
            byteIs(b, Math.floorMod(b, 256));
        }
    }

    private static void byteIs(int b, int value) {
        MultipathStream x = new MultipathStream(8, 1, 1, 1);
        Check.due("write(" + b + ")", x.write(b), true);
        Check.due("the byte written", x.offset(0, MultipathStream.O_WRITTEN), value);
        x.send(0);
        x.deliver(0);
        Check.due("the byte delivered", x.offset(0, MultipathStream.O_DELIVERED), value);
    }

    private static void streamFull() {
        MultipathStream x = Make.wholeStream();
        Check.due("the buffer is empty", x.conn(MultipathStream.C_DATA_UNA), 256);
        Refused.write(x, 0);
        Refused.write(x, -1);
        Refused.write(x, 256);
        MultipathStream y = new MultipathStream(32, 1, 1, 1);
        Make.carry(y, 2, 255);
        Make.write(y, 1);
        Refused.write(y, 1);
        Make.send(y, 2, 1);
        Refused.write(y, 1);
        Make.fail(y, 0, 1, 2);
        Refused.write(y, 1);
    }

    private static void lastByteOfTheStream() {
        MultipathStream x = new MultipathStream(8, 1, 1, 1);
        Make.carry(x, 0, 255);
        Map<String, String> before = Snapshot.of(x);
        Check.due("the write of byte 255, the 256th", x.write(77), true);
        Check.changed("the 256th write", before, x, "WRITTEN=256", "PENDING=1", "pending offsets=255",
            "written bytes=" + before.get("written bytes") + " 255:77");
    }

    private static void bufferFull() {
        for (int bufCap = 8; bufCap <= 32; bufCap++) {
            MultipathStream x = new MultipathStream(bufCap, 1, 1, 1);
            Make.write(x, bufCap);
            Refused.write(x, 5);
            MultipathStream y = new MultipathStream(bufCap, 1, 1, 1);
            Make.carry(y, 1, 3);
            Make.write(y, bufCap);
            Refused.write(y, 5);
        }
    }

    private static void onlyAcknowledgedFree() {
        MultipathStream x = new MultipathStream(8, 1, 1, 1);
        Make.write(x, 8);
        Make.send(x, 0, 4);
        Make.send(x, 1, 4);
        // Neither sending, nor holding, nor losing, nor failing frees the buffer: the data ACK alone does.
        Refused.write(x, 1);
        Check.due("deliver(1) holds", x.deliver(1), 0);
        Refused.write(x, 1);
        x.timeout(0);
        Refused.write(x, 1);
        Make.fail(x, 0);
        Refused.write(x, 1);
        Check.due("deliver(0)", x.deliver(0), 8);
        Make.write(x, 8);
        Refused.write(x, 1);
    }

    private static void lastPlaceOfTheBuffer() {
        for (int bufCap = 8; bufCap <= 32; bufCap++) {
            MultipathStream x = new MultipathStream(bufCap, 1, 1, 1);
            Make.carry(x, 1, 2);
            Make.write(x, bufCap - 1);
            Check.due("the write into the last place of " + bufCap, x.write(5), true);
            Check.due("written", x.conn(MultipathStream.C_WRITTEN), 2 + bufCap);
            Refused.write(x, 6);
        }
    }

    private static void bothFull() {
        int[] caps = {8, 9, 31, 32};
        for (int bufCap : caps) {
            MultipathStream x = new MultipathStream(bufCap, 1, 1, 1);
            Make.carry(x, 0, 256 - bufCap);
            Make.write(x, bufCap);
            Refused.write(x, 1);
            Check.due("written", x.conn(MultipathStream.C_WRITTEN), 256);
            Check.due("dataUna", x.conn(MultipathStream.C_DATA_UNA), 256 - bufCap);
        }
    }

    private static void refusedByteIsGone() {
        MultipathStream x = new MultipathStream(8, 1, 1, 1);
        Make.write(x, 8);
        Refused.write(x, 99);
        Make.send(x, 0, 4);
        x.deliver(0);
        Check.due("offset 8 after room was made", x.offset(8, MultipathStream.O_WRITTEN), -1);
        Check.due("write(5)", x.write(5), true);
        Check.due("offset 8", x.offset(8, MultipathStream.O_WRITTEN), 5);
        Check.due("the last byte taken before", x.offset(7, MultipathStream.O_WRITTEN), 17);
    }

    private static void firstAndLastOffset() {
        MultipathStream x = new MultipathStream(8, 1, 1, 1);
        Check.due("the first write", x.write(200), true);
        Check.due("offset 0", x.offset(0, MultipathStream.O_WRITTEN), 200);
        Check.due("offset 1", x.offset(1, MultipathStream.O_WRITTEN), -1);
        x.send(0);
        x.deliver(0);
        Make.carry(x, 0, 254);
        Check.due("offset 255 before", x.offset(255, MultipathStream.O_WRITTEN), -1);
        Check.due("the last write", x.write(201), true);
        Check.due("offset 255", x.offset(255, MultipathStream.O_WRITTEN), 201);
        Check.due("offset 0 still", x.offset(0, MultipathStream.O_WRITTEN), 200);
    }

    private static void pendingAtBothEnds() {
        MultipathStream x = new MultipathStream(8, 1, 1, 1);
        Make.write(x, 1);
        Check.due("pending 0", x.offset(0, MultipathStream.O_PENDING), 1);
        Check.due("pendings", x.conn(MultipathStream.C_PENDING), 1);
        x.send(0);
        x.deliver(0);
        Make.carry(x, 0, 254);
        Make.write(x, 1);
        Check.due("pending 255", x.offset(255, MultipathStream.O_PENDING), 1);
        Check.due("pendings", x.conn(MultipathStream.C_PENDING), 1);
    }

    private static void writtenCounts() {
        MultipathStream x = new MultipathStream(32, 1, 1, 1);
        for (int k = 0; k < 256; k++) {
            Check.due("written", x.conn(MultipathStream.C_WRITTEN), k);
            Make.carry(x, 0, 1);
        }
        Check.due("written", x.conn(MultipathStream.C_WRITTEN), 256);
    }

    /** Wherever there is room, whatever the subflows are. */
    private static void answersTrue() {
        Rows.afterEveryCall(step -> {
            if (step.calls.call != Calls.WRITE) {
                return true;
            }
            int written = step.x.conn(MultipathStream.C_WRITTEN) - step.answer;
            int size = written - step.x.conn(MultipathStream.C_DATA_UNA);
            boolean room = written < 256 && size < step.x.conn(MultipathStream.C_BUF_CAP);
            return room == (step.answer == 1);
        });
    }

    private static void changesNothingElse() {
        MultipathStream x = Make.manySided();
        Map<String, String> before = Snapshot.of(x);
        Check.due("write(300)", x.write(300), true);
        Check.changed("write(300)", before, x, "WRITTEN=22", "PENDING=6", "pending offsets=4 5 6 7 20 21",
            "written bytes=" + before.get("written bytes") + " 21:44");
        MultipathStream y = Make.written(3, 1, 1, 1);
        Make.fail(y, 0, 1, 2);
        before = Snapshot.of(y);
        Check.due("write(4) with every subflow failed", y.write(4), true);
        Check.changed("write(4) with every subflow failed", before, y, "WRITTEN=4", "PENDING=4",
            "pending offsets=0 1 2 3", "written bytes=0:10 1:11 2:12 3:4");
    }
}
