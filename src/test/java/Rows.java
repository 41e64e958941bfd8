import java.util.function.BiFunction;

/** Long rows of calls with a law that must hold after each of them. */
final class Rows {
    private static final int ROWS = 100;
    private static final int CALLS = 700;

    /** What was so before a call, the call, and its answer. */
    static final class Step {
        final MultipathStream x;
        final Calls calls;
        int answer;
        int deliveredBefore;
        int sentBefore;
        final int[] bytesBefore = new int[MultipathStream.MAX_STREAM];

        Step(MultipathStream x, Calls calls) {
            this.x = x;
            this.calls = calls;
        }

        void go() {
            calls.next();
            sentBefore = x.conn(MultipathStream.C_SENT);
            deliveredBefore = x.conn(MultipathStream.C_DELIVERED);
            for (int d = 0; d < deliveredBefore; d++) {
                bytesBefore[d] = x.offset(d, MultipathStream.O_DELIVERED);
            }
            answer = calls.answer(x);
        }
    }

    /** A law about the connection. */
    interface Law {
        boolean holds(Step step);
    }

    private Rows() {
    }

    static void afterEveryCall(Law law) {
        for (int number = 0; number < ROWS; number++) {
            Calls calls = new Calls(number);
            Step step = new Step(calls.fresh(new int[4]), calls);
            for (int k = 0; k < CALLS; k++) {
                step.go();
                Check.holds("after call " + k + " of row " + number + ", " + calls.text(), law.holds(step));
            }
        }
    }

    /** A value that every call must make what can be foretold before it. */
    static void foretold(String what, BiFunction<MultipathStream, Calls, Integer> foretell,
            BiFunction<MultipathStream, Calls, Integer> value) {
        for (int number = 0; number < ROWS; number++) {
            Calls calls = new Calls(number);
            MultipathStream x = calls.fresh(new int[4]);
            for (int k = 0; k < CALLS; k++) {
                calls.next();
                Integer due = foretell.apply(x, calls);
                calls.answer(x);
                Check.due(what + " after call " + k + " of row " + number + ", " + calls.text(),
                    value.apply(x, calls), due);
            }
        }
    }

    /** A law about each subflow. */
    static void onEverySubflow(BiFunction<MultipathStream, Integer, Boolean> law) {
        afterEveryCall(step -> law.apply(step.x, 0) && law.apply(step.x, 1) && law.apply(step.x, 2));
    }
}
