/** All promises together: long rows of calls answer, and leave behind, what the model does. */
public final class ModelTest {
    private static final int ROWS = 300;
    private static final int CALLS = 800;

    public static void main(String[] args) {
        for (int number = 0; number < ROWS && Check.allDue(); number++) {
            row(number);
        }
        Check.end();
    }

    private static void row(int number) {
        Calls calls = new Calls(number);
        int[] arguments = new int[4];
        MultipathStream x = calls.fresh(arguments);
        Model model = new Model(arguments);
        for (int k = 0; k < CALLS && Check.allDue(); k++) {
            calls.next();
            String where = "row " + number + ", call " + k + ", " + calls.text();
            Check.due(where, calls.answer(x), model.answer(calls.call, calls.argument));
            Check.due(where + ": the state after it", Snapshot.of(x), model.snapshot());
        }
    }
}
