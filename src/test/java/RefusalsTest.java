import java.util.Arrays;

/**
 * Every answer below 0, at the first value that is not good on each side and at the least and the greatest int; where two tests
 * would refuse, that the one named first does; and, for each such call, that it changes nothing. So for questions and idle.
 */
public final class RefusalsTest {
    private static final int BAD = Run.BAD;
    private static final int NONE = Run.NONE;
    private static final int FULL = Run.FULL;
    private static final int GONE = Run.GONE;
    private static final int EXISTS = Run.EXISTS;
    private static final int MIN = Run.MIN;
    private static final int MAX = Run.MAX;

    // Beside the edges, values whose low bits by themselves would be good.
    private static final int SIXTEEN_BITS = 1 << 16;
    private static final int[] WRONG_MAILBOXES = {MIN, MIN + 1, -4, -1, 4, SIXTEEN_BITS, MAX};
    private static final int[] WRONG_SESSIONS = {MIN, MIN + 1, -4, -1, 3, SIXTEEN_BITS, MAX};
    private static final int[] WRONG_SIZES = {MIN, MIN + 1, -1, 0, 1001, SIXTEEN_BITS + 1, MAX};
    private static final int[] WRONG_FLAGS = {MIN, MIN + 1, -32, -1, 32, SIXTEEN_BITS, MAX};
    private static final int[] WRONG_PATTERNS = {MIN, MIN + 33, -1024, -1, 1024, SIXTEEN_BITS, MAX};
    private static final int[] WRONG_STORES = {MIN, MIN + 2, -32, -1, 96, SIXTEEN_BITS + 2, MAX};
    private static final int[] WRONG_APPENDS = {MIN, MIN + 32, -32 * 2047, -32 * 1048, -32 * 1000, -33, -32, -1, 0, 31, 32 * 1001,
        32 * 1001 + 31, SIXTEEN_BITS + 32, MAX};
    private static final int[] ANY = {MIN, -1, 0, 1, 2, 14, 15, MAX};

    // In the state that is made by busy().
    private static final int NOT_THERE = 2;
    private static final int EMPTY_MAILBOX = 3;
    private static final int FULL_MAILBOX = 1;
    private static final int LOOKING = 0;
    private static final int GONE_PLACE = 2;
    private static final int WITHOUT = 1;
    private static final int LOOKING_AT_EMPTY = 2;
    private static final int[] NO_PLACES = {MIN, -1, 0, 5, MAX};

    private static final String BUSY = busy("set-up").everything();
    private static final String NEW = new Run("set-up").everything();

    private RefusalsTest() {
    }

    public static void main(String[] args) {
        createRefuses();
        removeRefuses();
        appendRefuses();
        statusRefuses();
        countingRefuses();
        changedSinceRefuses();
        vanishedRefuses();
        selectRefuses();
        leaveAndLengthRefuse();
        numberAtRefuses();
        placeOfRefuses();
        fetchRefuses();
        storeRefuses();
        expungeAndPollRefuse();
        copyRefuses();
        searchRefuses();
        appendAndCrashRefuses();
        questionsChangeNothing();
        idleChangesNothing();
        newObjectRefuses();
        Due.end();
    }

    /**
     * Mailbox 0 has messages 1, 3, 4 and 5, the last with flag 0; 1 has fourteen; 2 was there once; 3 is empty. Session 0 sees
     * messages 1 .. 4 of mailbox 0, of which 2, at place 2, is gone; 1 has nothing selected; 2 looks at mailbox 3.
     */
    private static Run busy(String sentence) {
        Run run = new Run(sentence).filled(0, 4).filled(FULL_MAILBOX, 14).did("create", EMPTY_MAILBOX);
        run.did("create", NOT_THERE).did("append", NOT_THERE, 1, 0).did("remove", NOT_THERE);
        run.did("select", LOOKING, 0).did("select", WITHOUT, 0).did("select", LOOKING_AT_EMPTY, EMPTY_MAILBOX);
        run.did("store", LOOKING, 2, 1).did("store", LOOKING, 3, 6).did("expunge", WITHOUT).did("leave", WITHOUT);
        return run.did("append", 0, 50, 1);
    }

    private static void refused(int want, String name, int... arguments) {
        Run run = busy("a refused call changes nothing").due(want, name, arguments);
        Due.same("after " + name + Arrays.toString(arguments) + " everything", run.everything(), BUSY);
    }

    private static void createRefuses() {
        for (int m : WRONG_MAILBOXES) {
            refused(BAD, "create", m);
        }
        for (int m : new int[] {0, FULL_MAILBOX, EMPTY_MAILBOX}) {
            refused(EXISTS, "create", m);
        }
    }

    private static void removeRefuses() {
        for (int m : WRONG_MAILBOXES) {
            refused(BAD, "remove", m);
        }
        refused(NONE, "remove", NOT_THERE);
    }

    private static void appendRefuses() {
        for (int m : WRONG_MAILBOXES) {
            refused(BAD, "append", m, 1, 0);
            refused(BAD, "append", m, 0, 0);
            refused(BAD, "append", m, 1, 32);
        }
        for (int m = 0; m < 4; m++) {
            for (int size : WRONG_SIZES) {
                refused(BAD, "append", m, size, 0);
                refused(BAD, "append", m, size, 32);
            }
            for (int flags : WRONG_FLAGS) {
                refused(BAD, "append", m, 1, flags);
                refused(BAD, "append", m, 1000, flags);
            }
        }
        for (int flags : new int[] {0, 31}) {
            refused(NONE, "append", NOT_THERE, 1, flags);
            refused(NONE, "append", NOT_THERE, 1000, flags);
            refused(FULL, "append", FULL_MAILBOX, 1, flags);
            refused(FULL, "append", FULL_MAILBOX, 1000, flags);
        }
    }

    private static void statusRefuses() {
        for (int what : new int[] {MIN, -1, 0, 3, 4, MAX}) {
            for (int m : WRONG_MAILBOXES) {
                refused(BAD, "status", m, what);
            }
        }
        for (int what : new int[] {MIN, -1, 4, MAX}) {
            for (int m = 0; m < 4; m++) {
                refused(BAD, "status", m, what);
            }
        }
        for (int what = 0; what < 4; what++) {
            refused(NONE, "status", NOT_THERE, what);
        }
    }

    private static void countingRefuses() {
        for (int m : WRONG_MAILBOXES) {
            refused(BAD, "counting", m, 0);
            refused(BAD, "counting", m, 1023);
            refused(BAD, "counting", m, 1024);
        }
        for (int code : WRONG_PATTERNS) {
            for (int m = 0; m < 4; m++) {
                refused(BAD, "counting", m, code);
            }
        }
        refused(NONE, "counting", NOT_THERE, 0);
        refused(NONE, "counting", NOT_THERE, 1023);
    }

    private static void changedSinceRefuses() {
        for (int any : ANY) {
            for (int m : WRONG_MAILBOXES) {
                refused(BAD, "changedSince", m, any, MIN);
                refused(BAD, "changedSince", m, MIN, any);
            }
            refused(NONE, "changedSince", NOT_THERE, any, MIN);
            refused(NONE, "changedSince", NOT_THERE, MIN, any);
            refused(NONE, "changedSince", EMPTY_MAILBOX, any, MIN);
            refused(NONE, "changedSince", EMPTY_MAILBOX, MIN, any);
            refused(NONE, "changedSince", 0, any, MAX);
            refused(NONE, "changedSince", 0, MAX, any);
        }
    }

    private static void vanishedRefuses() {
        for (int number : ANY) {
            for (int m : WRONG_MAILBOXES) {
                refused(BAD, "vanished", m, number);
            }
            refused(NONE, "vanished", NOT_THERE, number);
        }
    }

    private static void selectRefuses() {
        for (int s : WRONG_SESSIONS) {
            for (int m = -1; m <= 4; m++) {
                refused(BAD, "select", s, m);
            }
        }
        for (int s = 0; s < 3; s++) {
            for (int m : WRONG_MAILBOXES) {
                refused(BAD, "select", s, m);
            }
            refused(NONE, "select", s, NOT_THERE);
        }
    }

    private static void leaveAndLengthRefuse() {
        for (int s : WRONG_SESSIONS) {
            refused(BAD, "leave", s);
            refused(BAD, "length", s);
        }
        refused(NONE, "leave", WITHOUT);
        refused(NONE, "length", WITHOUT);
    }

    private static void numberAtRefuses() {
        for (int place : ANY) {
            for (int s : WRONG_SESSIONS) {
                refused(BAD, "numberAt", s, place);
            }
            refused(NONE, "numberAt", WITHOUT, place);
            refused(NONE, "numberAt", LOOKING_AT_EMPTY, place);
        }
        for (int place : NO_PLACES) {
            refused(NONE, "numberAt", LOOKING, place);
        }
    }

    private static void placeOfRefuses() {
        for (int number : ANY) {
            for (int s : WRONG_SESSIONS) {
                refused(BAD, "placeOf", s, number);
            }
            refused(NONE, "placeOf", WITHOUT, number);
            refused(NONE, "placeOf", LOOKING_AT_EMPTY, number);
        }
        for (int number : NO_PLACES) {
            refused(NONE, "placeOf", LOOKING, number);
        }
    }

    private static void fetchRefuses() {
        int[] wrong = {MIN, -1, 3, MAX};
        for (int place : ANY) {
            for (int s : WRONG_SESSIONS) {
                refused(BAD, "fetch", s, place, 0);
                refused(BAD, "fetch", s, place, 3);
            }
            for (int what : wrong) {
                refused(BAD, "fetch", LOOKING, place, what);
                refused(BAD, "fetch", WITHOUT, place, what);
                refused(BAD, "fetch", LOOKING_AT_EMPTY, place, what);
            }
        }
        for (int what = 0; what < 3; what++) {
            for (int place : ANY) {
                refused(NONE, "fetch", WITHOUT, place, what);
                refused(NONE, "fetch", LOOKING_AT_EMPTY, place, what);
            }
            for (int place : NO_PLACES) {
                refused(NONE, "fetch", LOOKING, place, what);
            }
            refused(GONE, "fetch", LOOKING, GONE_PLACE, what);
        }
    }

    private static void storeRefuses() {
        for (int place : ANY) {
            for (int s : WRONG_SESSIONS) {
                refused(BAD, "store", s, place, 31);
                refused(BAD, "store", s, place, 96);
            }
            for (int code : WRONG_STORES) {
                refused(BAD, "store", LOOKING, place, code);
                refused(BAD, "store", WITHOUT, place, code);
                refused(BAD, "store", LOOKING_AT_EMPTY, place, code);
            }
        }
        for (int code : new int[] {0, 31, 63, 95}) {
            for (int place : ANY) {
                refused(NONE, "store", WITHOUT, place, code);
                refused(NONE, "store", LOOKING_AT_EMPTY, place, code);
            }
            for (int place : NO_PLACES) {
                refused(NONE, "store", LOOKING, place, code);
            }
            refused(GONE, "store", LOOKING, GONE_PLACE, code);
        }
    }

    private static void expungeAndPollRefuse() {
        for (int s : WRONG_SESSIONS) {
            refused(BAD, "expunge", s);
            refused(BAD, "poll", s);
        }
        refused(NONE, "expunge", WITHOUT);
        refused(NONE, "poll", WITHOUT);
    }

    private static void copyRefuses() {
        for (int place : ANY) {
            for (int s : WRONG_SESSIONS) {
                for (int m = -1; m <= 4; m++) {
                    refused(BAD, "copy", s, place, m);
                }
            }
            for (int m : WRONG_MAILBOXES) {
                refused(BAD, "copy", LOOKING, place, m);
                refused(BAD, "copy", WITHOUT, place, m);
                refused(BAD, "copy", LOOKING_AT_EMPTY, place, m);
            }
        }
        for (int m = 0; m < 4; m++) {
            for (int place : ANY) {
                refused(NONE, "copy", WITHOUT, place, m);
                refused(NONE, "copy", LOOKING_AT_EMPTY, place, m);
            }
            for (int place : NO_PLACES) {
                refused(NONE, "copy", LOOKING, place, m);
            }
            refused(GONE, "copy", LOOKING, GONE_PLACE, m);
        }
        for (int place : new int[] {1, 3, 4}) {
            refused(NONE, "copy", LOOKING, place, NOT_THERE);
            refused(FULL, "copy", LOOKING, place, FULL_MAILBOX);
        }
    }

    private static void searchRefuses() {
        for (int any : ANY) {
            for (int s : WRONG_SESSIONS) {
                refused(BAD, "search", s, 0, any, MIN);
                refused(BAD, "search", s, 1024, MIN, any);
            }
            for (int code : WRONG_PATTERNS) {
                refused(BAD, "search", LOOKING, code, MIN, any);
                refused(BAD, "search", WITHOUT, code, any, MIN);
                refused(BAD, "search", LOOKING_AT_EMPTY, code, any, any);
            }
            refused(NONE, "search", WITHOUT, 0, any, MIN);
            refused(NONE, "search", WITHOUT, 0, MIN, any);
            refused(NONE, "search", LOOKING_AT_EMPTY, 0, any, MIN);
            refused(NONE, "search", LOOKING_AT_EMPTY, 0, MIN, any);
            refused(NONE, "search", LOOKING, 0, MAX, any);
            refused(NONE, "search", LOOKING, 0, any, MAX);
            refused(NONE, "search", LOOKING, 1023, any, any);
        }
    }

    private static void appendAndCrashRefuses() {
        for (int steps : new int[] {MIN, 0, 3, MAX}) {
            for (int m : WRONG_MAILBOXES) {
                refused(BAD, "appendAndCrash", m, 32, steps);
                refused(BAD, "appendAndCrash", m, 31, steps);
                refused(BAD, "appendAndCrash", m, -1, steps);
            }
            for (int m = 0; m < 4; m++) {
                for (int code : WRONG_APPENDS) {
                    refused(BAD, "appendAndCrash", m, code, steps);
                }
            }
            for (int code : new int[] {32, 63, 32 * 1000, 32 * 1000 + 31}) {
                refused(NONE, "appendAndCrash", NOT_THERE, code, steps);
                refused(FULL, "appendAndCrash", FULL_MAILBOX, code, steps);
            }
        }
    }

    private static void asked(int want, String name, int... arguments) {
        Run run = busy("questions change nothing").due(want, name, arguments);
        Due.same("after " + name + Arrays.toString(arguments) + " everything", run.everything(), BUSY);
    }

    private static void questionsChangeNothing() {
        asked(1, "status", 0, 0);
        asked(15, "status", FULL_MAILBOX, 1);
        asked(1, "status", EMPTY_MAILBOX, 2);
        asked(4, "status", 0, 3);
        asked(4, "counting", 0, 0);
        asked(14, "counting", FULL_MAILBOX, 32 * 31);
        asked(3, "changedSince", 0, 0, 1);
        asked(0, "vanished", 0, 1);
        asked(1, "vanished", 0, 2);
        asked(4, "length", LOOKING);
        asked(2, "numberAt", LOOKING, GONE_PLACE);
        asked(2, "placeOf", LOOKING, 2);
        asked(6, "fetch", LOOKING, 3, 0);
        asked(30, "fetch", LOOKING, 3, 1);
        asked(7, "fetch", LOOKING, 3, 2);
        asked(3, "search", LOOKING, 0, 0, 1);
        asked(0, "faults");
    }

    private static void idleChangesNothing() {
        int[] mailboxes = {MIN, -1, 0, 1, 2, 3, 4, MAX};
        for (int m : mailboxes) {
            for (int steps : ANY) {
                asked(0, "idle", m, steps);
                Run run = new Run("idle changes no answer").due(0, "idle", m, steps);
                Due.same("everything of a new object after idle", run.everything(), NEW);
            }
        }
    }

    private static void refusedByNew(int want, String name, int... arguments) {
        Run run = new Run("a new object").due(want, name, arguments);
        Due.same("after " + name + Arrays.toString(arguments) + " everything", run.everything(), NEW);
    }

    private static void newObjectRefuses() {
        for (int m = 0; m < 4; m++) {
            refusedByNew(NONE, "remove", m);
            refusedByNew(NONE, "append", m, 1, 0);
            refusedByNew(NONE, "status", m, 0);
            refusedByNew(NONE, "counting", m, 0);
            refusedByNew(NONE, "changedSince", m, MIN, MIN);
            refusedByNew(NONE, "vanished", m, 1);
            refusedByNew(NONE, "appendAndCrash", m, 32, 0);
        }
        for (int s = 0; s < 3; s++) {
            for (int m = 0; m < 4; m++) {
                refusedByNew(NONE, "select", s, m);
                refusedByNew(NONE, "copy", s, 1, m);
            }
            refusedByNew(NONE, "leave", s);
            refusedByNew(NONE, "length", s);
            refusedByNew(NONE, "expunge", s);
            refusedByNew(NONE, "poll", s);
            for (int any : ANY) {
                refusedByNew(NONE, "numberAt", s, any);
                refusedByNew(NONE, "placeOf", s, any);
                refusedByNew(NONE, "fetch", s, any, 0);
                refusedByNew(NONE, "store", s, any, 31);
                refusedByNew(NONE, "search", s, 0, MIN, any);
            }
        }
        refusedByNew(0, "crash");
        refusedByNew(0, "faults");
    }
}
