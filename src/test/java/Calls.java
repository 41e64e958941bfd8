/** A fixed row of calls for each seed, with arguments that are mostly, but not always, sound. */
final class Calls {
    static final int WRITE = 0;
    static final int SEND = 1;
    static final int SEND_ALL = 2;
    static final int DELIVER = 3;
    static final int DROP = 4;
    static final int DUPLICATE = 5;
    static final int TIMEOUT = 6;
    static final int FAIL = 7;
    static final String[] NAMES = {"write", "send", "sendAll", "deliver", "drop", "duplicate", "timeout", "fail"};

    // How often each call comes: long clean growth, much loss, many copies, quick failures, hardly any trouble,
    // failures with full channels (so the same bytes come on two paths).
    private static final int[][] PROFILES = {
        {40, 20, 5, 30, 1, 1, 1, 0},
        {30, 15, 5, 25, 10, 5, 9, 1},
        {20, 10, 5, 20, 5, 30, 9, 1},
        {40, 15, 10, 25, 2, 3, 2, 3},
        {30, 30, 0, 30, 0, 0, 1, 0},
        {35, 25, 5, 20, 0, 1, 2, 1}
    };
    private static final int[] WILD = {-1, 3, 4, 255, 256, Integer.MIN_VALUE, Integer.MAX_VALUE};

    private final int[] profile;
    private long seed;
    int call;
    int argument;

    Calls(int number) {
        profile = PROFILES[number % PROFILES.length];
        seed = number * 0x9E3779B97F4A7C15L + 1;
    }

    int below(int bound) {
        seed = seed * 6364136223846793005L + 1442695040888963407L;
        return (int) ((seed >>> 33) % bound);
    }

    MultipathStream fresh(int[] arguments) {
        int[] some = {-1, 0, 1, 2, 3, 4, 5, 8, 9, 16, 20, 31, 32, 33, Integer.MIN_VALUE, Integer.MAX_VALUE};
        for (int k = 0; k < 4; k++) {
            arguments[k] = some[below(some.length)];
        }
        return new MultipathStream(arguments[0], arguments[1], arguments[2], arguments[3]);
    }

    void next() {
        int sum = 0;
        for (int weight : profile) {
            sum += weight;
        }
        int at = below(sum);
        call = 0;
        while (at >= profile[call]) {
            at -= profile[call];
            call++;
        }
        if (call == WRITE) {
            argument = below(1000) - 300;
        } else if (below(40) == 0) {
            argument = WILD[below(WILD.length)];
        } else {
            argument = below(3);
        }
    }

    /** Makes the call on x; a boolean answer counts 1 or 0. */
    int answer(MultipathStream x) {
        switch (call) {
            case WRITE: return x.write(argument) ? 1 : 0;
            case SEND: return x.send(argument);
            case SEND_ALL: return x.sendAll();
            case DELIVER: return x.deliver(argument);
            case DROP: return x.drop(argument) ? 1 : 0;
            case DUPLICATE: return x.duplicate(argument) ? 1 : 0;
            case TIMEOUT: return x.timeout(argument) ? 1 : 0;
            default: return x.fail(argument) ? 1 : 0;
        }
    }

    String text() {
        return NAMES[call] + "(" + (call == SEND_ALL ? "" : "" + argument) + ")";
    }
}
