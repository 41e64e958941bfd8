import java.util.Map;
import java.util.TreeMap;

/** Counts the answers that are not as due, and ends a test with exit code 1 if there were any. */
final class Check {
    private static int looked = 0;
    private static int wrong = 0;
    private static int told = 0;
    private static String under = "";

    // A law that is broken is broken thousands of times in the rows of calls: a few say enough.
    private static final int TOLD_OF_EACH = 20;

    private Check() {
    }

    /** One sentence of the document and the test of its own: what is not as due is told under the sentence. */
    static void sentence(String text, Runnable test) {
        under = "\"" + text + "\": ";
        told = 0;
        int before = looked;
        // A throw would hide the tests of the sentences after this one.
        try {
            test.run();
        } catch (RuntimeException thrown) {
            due("a throw", thrown.toString(), "none");
        }
        holds("its test looks at something", looked > before);
        under = "";
        told = 0;
    }

    static void due(String what, Object got, Object want) {
        looked++;
        if (!got.equals(want)) {
            wrong++;
            told++;
            if (told > TOLD_OF_EACH) {
                return;
            }
            System.out.println(under + what + ": got " + got + ", due is " + want);
        }
    }

    static void holds(String what, boolean truth) {
        due(what, truth, true);
    }

    /** Of all that the queries show, exactly the named values differ from before ("SENT=1"). */
    static void changed(String what, Map<String, String> before, MultipathStream x, String... changes) {
        Map<String, String> want = new TreeMap<>();
        for (String change : changes) {
            int at = change.indexOf('=');
            want.put(change.substring(0, at), change.substring(at + 1));
        }
        Map<String, String> got = new TreeMap<>(Snapshot.of(x));
        got.entrySet().removeAll(before.entrySet());
        due(what + " changes", got, want);
    }

    static void unchanged(String what, Map<String, String> before, MultipathStream x) {
        changed(what, before, x);
    }

    static boolean allDue() {
        return wrong == 0;
    }

    static void end() {
        System.out.println(looked + " looks, " + wrong + " not as due");
        if (looked == 0 || wrong != 0) {
            System.exit(1);
        }
    }
}
