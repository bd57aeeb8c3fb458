/** Long mixed runs of calls, always the same ones, each answer compared with that of the model. */
public final class ModelRunsTest {
    private static final int RUNS = 3000;
    private static final int MOST_CALLS = 512;
    private static final String[] NAMES = {
        "create", "remove", "append", "status", "counting", "changedSince", "vanished", "select", "leave", "length", "numberAt",
        "placeOf", "fetch", "store", "expunge", "poll", "copy", "search", "appendAndCrash", "crash", "idle", "faults"};
    // How often each method is called, so that mailboxes fill and views grow old before a crash or a removal.
    private static final int[] WEIGHTS = {6, 1, 30, 6, 6, 6, 6, 8, 1, 4, 6, 6, 10, 24, 5, 5, 12, 10, 1, 1, 2, 2};
    private static final int[] EXTREMES = {Integer.MIN_VALUE, Integer.MIN_VALUE + 1, -1, 0, 1, Integer.MAX_VALUE - 1, Integer.MAX_VALUE};

    private long seed;
    private final MailSessions x = new MailSessions();
    private final Model model = new Model();
    // The fewer mailboxes a run favours, the fuller they get.
    private final int favoured;
    private final int run;
    private int calls = 0;

    private ModelRunsTest(int run) {
        this.run = run;
        seed = run * 7919L + 17;
        favoured = 1 + run % 4;
    }

    public static void main(String[] args) {
        for (int run = 0; run < RUNS && Due.allWell(); run++) {
            ModelRunsTest test = new ModelRunsTest(run);
            for (int i = 0; i < 300 && Due.allWell(); i++) {
                test.mixedCall();
            }
            test.sweep();
        }
        Due.end();
    }

    private int below(int bound) {
        seed = seed * 6364136223846793005L + 1442695040888963407L;
        return (int) ((seed >>> 33) % bound);
    }

    private int method() {
        int all = 0;
        for (int weight : WEIGHTS) {
            all += weight;
        }
        int left = below(all);
        int method = 0;
        while (left >= WEIGHTS[method]) {
            left -= WEIGHTS[method];
            method++;
        }
        return method;
    }

    private void mixedCall() {
        int method = method();
        int a = isOfSession(method) ? below(3) : below(favoured);
        int b = second(method);
        int c = third(method);
        int d = below(16) - 1;
        switch (below(60)) {
            case 0: a = EXTREMES[below(EXTREMES.length)]; break;
            case 1: b = EXTREMES[below(EXTREMES.length)]; break;
            case 2: c = EXTREMES[below(EXTREMES.length)]; break;
            case 3: d = EXTREMES[below(EXTREMES.length)]; break;
            case 4: a = below(6) - 1; break;
            default: break;
        }
        compare(method, a, b, c, d);
    }

    private static boolean isOfSession(int method) {
        return method >= 7 && method <= 17;
    }

    private int second(int method) {
        switch (method) {
            case 2: return below(1003);
            case 3: return below(6) - 1;
            case 4: case 17: return below(3) == 0 ? below(1026) - 1 : 33 * (1 << below(5));
            case 5: case 6: return below(40);
            case 7: return below(favoured);
            case 18: return below(32 * 1001 + 40);
            default: return below(16);
        }
    }

    private int third(int method) {
        switch (method) {
            case 2: return below(40) == 0 ? 32 : below(32);
            case 12: return below(5) - 1;
            case 13: return below(3) == 0 ? 32 * below(3) + 1 : below(98) - 1;
            case 16: return below(favoured);
            case 17: return below(900);
            default: return below(30);
        }
    }

    /** Asks everything that can be asked within the calls that an object may get. */
    private void sweep() {
        for (int m = 0; m < 4; m++) {
            for (int what = 0; what < 4; what++) {
                compare(3, m, what, 0, 0);
            }
            for (int number = 1; number < 12; number++) {
                compare(6, m, number, 0, 0);
                compare(5, m, number, number - 1, 0);
            }
        }
        for (int s = 0; s < 3; s++) {
            compare(9, s, 0, 0, 0);
            for (int place = 0; place < 16; place++) {
                compare(10, s, place, 0, 0);
                compare(12, s, place, place % 3, 0);
            }
        }
    }

    private void compare(int method, int a, int b, int c, int d) {
        if (!Due.allWell() || ++calls > MOST_CALLS) {
            return;
        }
        String call = "run " + run + ", call " + calls + ": " + NAMES[method] + "(" + a + ", " + b + ", " + c + ", " + d + ")";
        Due.is(call, answer(method, a, b, c, d), model.answer(method, a, b, c, d));
    }

    private int answer(int method, int a, int b, int c, int d) {
        switch (method) {
            case 0: return x.create(a);
            case 1: return x.remove(a);
            case 2: return x.append(a, b, c);
            case 3: return x.status(a, b);
            case 4: return x.counting(a, b);
            case 5: return x.changedSince(a, b, c);
            case 6: return x.vanished(a, b);
            case 7: return x.select(a, b);
            case 8: return x.leave(a);
            case 9: return x.length(a);
            case 10: return x.numberAt(a, b);
            case 11: return x.placeOf(a, b);
            case 12: return x.fetch(a, b, c);
            case 13: return x.store(a, b, c);
            case 14: return x.expunge(a);
            case 15: return x.poll(a);
            case 16: return x.copy(a, b, c);
            case 17: return x.search(a, b, c, d);
            case 18: return x.appendAndCrash(a, b, c);
            case 19: return x.crash();
            case 20: x.idle(a, b); return 0;
            default: return x.faults();
        }
    }
}
