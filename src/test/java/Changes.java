import java.util.ArrayList;
import java.util.List;
import java.util.Map;
import java.util.TreeMap;

/** What one call of a long row of calls changed, of all that the queries show. */
final class Changes {
    private static final int ROWS = 80;
    private static final int CALLS = 600;

    final String where;
    final int call;
    final int argument;
    final int answer;
    /** The values that are not as they were: before the call, and after it. */
    final Map<String, String> was;
    final Map<String, String> is;

    private Changes(String where, Calls calls, int answer, Map<String, String> before, Map<String, String> after) {
        this.where = where;
        this.call = calls.call;
        this.argument = calls.argument;
        this.answer = answer;
        was = new TreeMap<>(before);
        was.entrySet().removeAll(after.entrySet());
        is = new TreeMap<>(after);
        is.entrySet().removeAll(before.entrySet());
    }

    static List<Changes> ofManyRows() {
        List<Changes> all = new ArrayList<>();
        for (int number = 0; number < ROWS; number++) {
            Calls calls = new Calls(number);
            MultipathStream x = calls.fresh(new int[4]);
            Map<String, String> before = Snapshot.of(x);
            for (int k = 0; k < CALLS; k++) {
                calls.next();
                int answer = calls.answer(x);
                Map<String, String> after = Snapshot.of(x);
                all.add(new Changes("row " + number + ", call " + k + ", " + calls.text(), calls, answer, before, after));
                before = after;
            }
        }
        return all;
    }

    /** A deliver that answers 0 is not refused: its segment has arrived. */
    boolean refused() {
        return call == Calls.DELIVER ? answer < 0 : answer <= 0;
    }

    /**
     * Whether one of the words means the value: its own name, or, of a subflow's value, "own CWND" for the
     * subflow that the call names, "others CWND" for the two others and "every CWND" for all; "others" and
     * "every" alone mean each value of theirs.
     */
    boolean means(String value, String... words) {
        for (String word : words) {
            if (word.equals(value) || meansOfSubflow(value, word)) {
                return true;
            }
        }
        return false;
    }

    private boolean meansOfSubflow(String value, String word) {
        int dot = value.indexOf('.');
        if (dot < 0) {
            return false;
        }
        boolean own = value.startsWith("sf" + argument + ".");
        String[] parts = word.split(" ");
        boolean whose = parts[0].equals("every") || parts[0].equals(own ? "own" : "others");
        return whose && (parts.length == 1 || parts[1].equals(value.substring(dot + 1)));
    }
}
