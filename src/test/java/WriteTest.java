import java.util.Map;

/** Promise 2: write. */
public final class WriteTest {
    public static void main(String[] args) {
        keepsTheLowEightBits();
        changesOnlyTheStream();
        refusesWhenTheBufferIsFull();
        acknowledgementMakesRoom();
        refusesWhenTheStreamIsFull();
        writesWithEverySubflowFailed();
        Check.end();
    }

    private static void keepsTheLowEightBits() {
        int[][] cases = {
            {0, 0}, {1, 1}, {127, 127}, {128, 128}, {255, 255}, {256, 0}, {257, 1}, {-1, 255}, {-256, 0},
            {-128, 128}, {Integer.MIN_VALUE, 0}, {Integer.MAX_VALUE, 255}
        };
        MultipathStream x = new MultipathStream(32, 1, 1, 1);
        for (int k = 0; k < cases.length; k++) {
            Check.due("write(" + cases[k][0] + ")", x.write(cases[k][0]), true);
            Check.due("the byte of " + cases[k][0], x.offset(k, MultipathStream.O_WRITTEN), cases[k][1]);
        }
    }

    private static void changesOnlyTheStream() {
        MultipathStream x = Make.written(5, 1, 2, 3);
        x.send(0);
        x.send(1);
        x.deliver(1);
        Map<String, String> before = Snapshot.of(x);
        Check.due("write(7)", x.write(7), true);
        Check.changed("write(7)", before, x, "WRITTEN=6", "PENDING=1", "pending offsets=5",
            "written bytes=0:10 1:11 2:12 3:13 4:14 5:7");
    }

    private static void refusesWhenTheBufferIsFull() {
        MultipathStream x = new MultipathStream(8, 1, 1, 1);
        Make.write(x, 8);
        Refused.write(x, 1);
        x.sendAll();
        Refused.write(x, 1);
    }

    private static void acknowledgementMakesRoom() {
        MultipathStream x = new MultipathStream(9, 1, 1, 1);
        Make.write(x, 9);
        x.send(0);
        x.send(1);
        x.deliver(1);
        Refused.write(x, 1);
        Check.due("deliver(0)", x.deliver(0), 8);
        Make.write(x, 8);
        Refused.write(x, 1);
        Check.due("written", x.conn(MultipathStream.C_WRITTEN), 17);
    }

    private static void refusesWhenTheStreamIsFull() {
        MultipathStream x = new MultipathStream(32, 1, 1, 1);
        Make.carry(x, 0, 255);
        Make.write(x, 1);
        Refused.write(x, 1);
        Check.due("the last send", x.send(0), 1);
        Check.due("the last deliver", x.deliver(0), 1);
        Refused.write(x, 1);
        Check.due("the last byte delivered", x.offset(255, MultipathStream.O_DELIVERED), (255 + 10) & 255);
    }

    private static void writesWithEverySubflowFailed() {
        MultipathStream x = new MultipathStream(8, 1, 1, 1);
        x.fail(0);
        x.fail(1);
        x.fail(2);
        Make.write(x, 8);
        Check.due("pending", x.conn(MultipathStream.C_PENDING), 8);
    }
}
