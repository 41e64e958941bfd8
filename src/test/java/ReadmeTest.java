/** The calls that README.md shows answer what it says there. */
public final class ReadmeTest {
    public static void main(String[] args) {
        MultipathStream x = new MultipathStream(16, 1, 2, 3);
        Check.due("x.write(72)", x.write(72), true);
        Check.due("x.write(105)", x.write(105), true);
        Check.due("x.sendAll()", x.sendAll(), 1);
        Check.due("x.drop(0)", x.drop(0), true);
        Check.due("x.timeout(0)", x.timeout(0), true);
        Check.due("x.send(0)", x.send(0), 2);
        Check.due("x.fail(0)", x.fail(0), true);
        Check.due("x.send(1)", x.send(1), 2);
        Check.due("x.deliver(1)", x.deliver(1), 2);
        Check.due("x.deliver(0)", x.deliver(0), 0);
        Check.due("x.conn(C_DISCARDED)", x.conn(MultipathStream.C_DISCARDED), 2);
        Check.due("x.offset(0, O_DELIVERED)", x.offset(0, MultipathStream.O_DELIVERED), 72);
        Check.due("x.send(0)", x.send(0), MultipathStream.R_FAILED);
        Check.end();
    }
}
