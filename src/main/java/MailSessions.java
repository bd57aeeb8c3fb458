/** Mailboxes that several sessions look at, each through a view of its own that only the session itself brings up to date. */
public final class MailSessions {
    public static final int BAD = -1;
    public static final int NONE = -2;
    public static final int FULL = -3;
    public static final int GONE = -4;
    public static final int EXISTS = -5;

    private static final int MAILBOXES = 4;
    private static final int SESSIONS = 3;
    private static final int MOST_MESSAGES = 14;
    private static final int MESSAGE_CELLS = MAILBOXES * MOST_MESSAGES;
    // A view never outgrows a mailbox: messages come into it only when all that are gone have left it.
    private static final int VIEW_CELLS = SESSIONS * MOST_MESSAGES;
    private static final int MOST_SIZE = 1000;
    private static final int FLAG_SETS = 32;
    private static final int DELETED = 1;
    private static final int FIRST_NUMBER = 1;
    private static final int FIRST_HIGHEST = 1;
    private static final int NOTHING = -1;
    private static final int NOWHERE = -1;
    private static final int ALLOWED = 0;

    private int greatestValidity;

    private final boolean[] there = new boolean[MAILBOXES];
    private final int[] validity = new int[MAILBOXES];
    private final int[] next = new int[MAILBOXES];
    private final int[] highest = new int[MAILBOXES];
    private final int[] messages = new int[MAILBOXES];

    // Mailbox m has the cells from m * MOST_MESSAGES on, in the order of the numbers.
    private final int[] numberIn = new int[MESSAGE_CELLS];
    private final int[] sizeIn = new int[MESSAGE_CELLS];
    private final int[] flagsIn = new int[MESSAGE_CELLS];
    private final int[] changeIn = new int[MESSAGE_CELLS];

    // Session s has the cells from s * MOST_MESSAGES on; its view is empty while nothing is selected.
    private final int[] selected = new int[SESSIONS];
    private final int[] viewLength = new int[SESSIONS];
    private final int[] view = new int[VIEW_CELLS];

    public MailSessions() {
        greatestValidity = 0;
        for (int s = 0; s < SESSIONS; s++) {
            selected[s] = NOTHING;
        }
    }

    public int create(int m) {
        if (!goodMailbox(m)) {
            return BAD;
        }
        if (there[m]) {
            return EXISTS;
        }
        greatestValidity++;
        there[m] = true;
        validity[m] = greatestValidity;
        next[m] = FIRST_NUMBER;
        highest[m] = FIRST_HIGHEST;
        messages[m] = 0;
        return validity[m];
    }

    public int remove(int m) {
        if (!goodMailbox(m)) {
            return BAD;
        }
        if (!there[m]) {
            return NONE;
        }
        there[m] = false;
        for (int s = 0; s < SESSIONS; s++) {
            if (selected[s] == m) {
                deselect(s);
            }
        }
        return messages[m];
    }

    public int append(int m, int size, int flags) {
        int refusal = refusalOfMessage(m, size, flags);
        if (refusal != ALLOWED) {
            return refusal;
        }
        return addMessage(m, size, flags);
    }

    public int status(int m, int what) {
        if (!goodMailbox(m) || what < 0 || what > 3) {
            return BAD;
        }
        if (!there[m]) {
            return NONE;
        }
        switch (what) {
            case 0:
                return validity[m];
            case 1:
                return next[m];
            case 2:
                return highest[m];
            default:
                return messages[m];
        }
    }

    public int counting(int m, int code) {
        if (!goodMailbox(m) || !goodPattern(code)) {
            return BAD;
        }
        if (!there[m]) {
            return NONE;
        }
        int found = 0;
        for (int i = 0; i < messages[m]; i++) {
            if (matches(flagsIn[m * MOST_MESSAGES + i], code)) {
                found++;
            }
        }
        return found;
    }

    public int changedSince(int m, int change, int after) {
        if (!goodMailbox(m)) {
            return BAD;
        }
        if (!there[m]) {
            return NONE;
        }
        for (int i = 0; i < messages[m]; i++) {
            int cell = m * MOST_MESSAGES + i;
            if (numberIn[cell] > after && changeIn[cell] > change) {
                return numberIn[cell];
            }
        }
        return NONE;
    }

    public int vanished(int m, int number) {
        if (!goodMailbox(m)) {
            return BAD;
        }
        if (!there[m]) {
            return NONE;
        }
        boolean wasThere = number >= FIRST_NUMBER && number < next[m];
        return wasThere && cellOf(m, number) == NOWHERE ? 1 : 0;
    }

    public int select(int s, int m) {
        if (!goodSession(s) || !goodMailbox(m)) {
            return BAD;
        }
        if (!there[m]) {
            return NONE;
        }
        selected[s] = m;
        viewAllMessages(s);
        return viewLength[s];
    }

    public int leave(int s) {
        if (!goodSession(s)) {
            return BAD;
        }
        if (selected[s] == NOTHING) {
            return NONE;
        }
        int left = selected[s];
        deselect(s);
        return left;
    }

    public int length(int s) {
        if (!goodSession(s)) {
            return BAD;
        }
        if (selected[s] == NOTHING) {
            return NONE;
        }
        return viewLength[s];
    }

    public int numberAt(int s, int place) {
        if (!goodSession(s)) {
            return BAD;
        }
        if (!hasPlace(s, place)) {
            return NONE;
        }
        return view[viewCell(s, place)];
    }

    public int placeOf(int s, int number) {
        if (!goodSession(s)) {
            return BAD;
        }
        for (int place = 1; place <= viewLength[s]; place++) {
            if (view[viewCell(s, place)] == number) {
                return place;
            }
        }
        return NONE;
    }

    public int fetch(int s, int place, int what) {
        if (!goodSession(s) || what < 0 || what > 2) {
            return BAD;
        }
        if (!hasPlace(s, place)) {
            return NONE;
        }
        int cell = cellAt(s, place);
        if (cell == NOWHERE) {
            return GONE;
        }
        switch (what) {
            case 0:
                return flagsIn[cell];
            case 1:
                return sizeIn[cell];
            default:
                return changeIn[cell];
        }
    }

    public int store(int s, int place, int code) {
        if (!goodSession(s) || code < 0 || code >= 3 * FLAG_SETS) {
            return BAD;
        }
        if (!hasPlace(s, place)) {
            return NONE;
        }
        int cell = cellAt(s, place);
        if (cell == NOWHERE) {
            return GONE;
        }
        int flags = flagsAfterStore(flagsIn[cell], code);
        if (flags != flagsIn[cell]) {
            flagsIn[cell] = flags;
            markChanged(selected[s], cell);
        }
        return flags;
    }

    public int expunge(int s) {
        if (!goodSession(s)) {
            return BAD;
        }
        if (selected[s] == NOTHING) {
            return NONE;
        }
        int taken = takeOutDeleted(selected[s]);
        dropGone(s);
        return taken;
    }

    public int poll(int s) {
        if (!goodSession(s)) {
            return BAD;
        }
        if (selected[s] == NOTHING) {
            return NONE;
        }
        int before = viewLength[s];
        dropGone(s);
        int kept = viewLength[s];
        viewAllMessages(s);
        int left = before - kept;
        int came = viewLength[s] - kept;
        return left + came;
    }

    public int copy(int s, int place, int m) {
        if (!goodSession(s) || !goodMailbox(m)) {
            return BAD;
        }
        if (!hasPlace(s, place)) {
            return NONE;
        }
        int cell = cellAt(s, place);
        if (cell == NOWHERE) {
            return GONE;
        }
        int refusal = refusalOfMailbox(m);
        if (refusal != ALLOWED) {
            return refusal;
        }
        return addMessage(m, sizeIn[cell], flagsIn[cell]);
    }

    public int search(int s, int code, int size, int after) {
        if (!goodSession(s) || !goodPattern(code)) {
            return BAD;
        }
        for (int place = 1; place <= viewLength[s]; place++) {
            if (place > after && isSought(s, place, code, size)) {
                return place;
            }
        }
        return NONE;
    }

    public int appendAndCrash(int m, int code, int steps) {
        if (code < 0) {
            return BAD;
        }
        int refusal = refusalOfMessage(m, code / FLAG_SETS, code % FLAG_SETS);
        if (refusal != ALLOWED) {
            return refusal;
        }
        deselectAll();
        return 0;
    }

    public int crash() {
        return deselectAll();
    }

    public void idle(int m, int steps) {
        // The state is always tidy, so there is no housekeeping to do.
    }

    public int faults() {
        int found = 0;
        for (int m = 0; m < MAILBOXES; m++) {
            if (there[m]) {
                found += faultsOfMailbox(m);
            }
        }
        for (int s = 0; s < SESSIONS; s++) {
            found += faultsOfView(s);
        }
        return found;
    }

    private static boolean goodMailbox(int m) {
        return m >= 0 && m < MAILBOXES;
    }

    private static boolean goodSession(int s) {
        return s >= 0 && s < SESSIONS;
    }

    private static boolean goodSize(int size) {
        return size >= 1 && size <= MOST_SIZE;
    }

    private static boolean goodFlags(int flags) {
        return flags >= 0 && flags < FLAG_SETS;
    }

    private static boolean goodPattern(int code) {
        return code >= 0 && code < FLAG_SETS * FLAG_SETS;
    }

    private static boolean matches(int flags, int code) {
        int mask = code / FLAG_SETS;
        int wanted = code % FLAG_SETS;
        // What is wanted outside the mask says nothing: only flags in the mask are looked at.
        return (flags & mask) == (wanted & mask);
    }

    private static int flagsAfterStore(int old, int code) {
        int flags = code % FLAG_SETS;
        switch (code / FLAG_SETS) {
            case 0:
                return flags;
            case 1:
                return old | flags;
            default:
                return old & ~flags;
        }
    }

    private int refusalOfMessage(int m, int size, int flags) {
        if (!goodMailbox(m) || !goodSize(size) || !goodFlags(flags)) {
            return BAD;
        }
        return refusalOfMailbox(m);
    }

    private int refusalOfMailbox(int m) {
        if (!there[m]) {
            return NONE;
        }
        return messages[m] < MOST_MESSAGES ? ALLOWED : FULL;
    }

    private int addMessage(int m, int size, int flags) {
        int cell = m * MOST_MESSAGES + messages[m];
        messages[m]++;
        numberIn[cell] = next[m];
        sizeIn[cell] = size;
        flagsIn[cell] = flags;
        markChanged(m, cell);
        next[m]++;
        return numberIn[cell];
    }

    private void markChanged(int m, int cell) {
        highest[m]++;
        changeIn[cell] = highest[m];
    }

    private int takeOutDeleted(int m) {
        int first = m * MOST_MESSAGES;
        int kept = 0;
        for (int i = 0; i < messages[m]; i++) {
            if ((flagsIn[first + i] & DELETED) == 0) {
                moveMessage(first + i, first + kept);
                kept++;
            }
        }
        int taken = messages[m] - kept;
        messages[m] = kept;
        highest[m] += taken;
        return taken;
    }

    private void moveMessage(int from, int to) {
        numberIn[to] = numberIn[from];
        sizeIn[to] = sizeIn[from];
        flagsIn[to] = flagsIn[from];
        changeIn[to] = changeIn[from];
    }

    private int cellOf(int m, int number) {
        for (int i = 0; i < messages[m]; i++) {
            if (numberIn[m * MOST_MESSAGES + i] == number) {
                return m * MOST_MESSAGES + i;
            }
        }
        return NOWHERE;
    }

    private static int viewCell(int s, int place) {
        return s * MOST_MESSAGES + place - 1;
    }

    private boolean hasPlace(int s, int place) {
        return place >= 1 && place <= viewLength[s];
    }

    private int cellAt(int s, int place) {
        int number = view[viewCell(s, place)];
        return cellOf(selected[s], number);
    }

    private boolean isSought(int s, int place, int code, int size) {
        int cell = cellAt(s, place);
        return cell != NOWHERE && sizeIn[cell] >= size && matches(flagsIn[cell], code);
    }

    private void viewAllMessages(int s) {
        int m = selected[s];
        for (int i = 0; i < messages[m]; i++) {
            view[s * MOST_MESSAGES + i] = numberIn[m * MOST_MESSAGES + i];
        }
        viewLength[s] = messages[m];
    }

    private void dropGone(int s) {
        int first = s * MOST_MESSAGES;
        int kept = 0;
        for (int i = 0; i < viewLength[s]; i++) {
            int number = view[first + i];
            if (cellOf(selected[s], number) != NOWHERE) {
                view[first + kept] = number;
                kept++;
            }
        }
        viewLength[s] = kept;
    }

    private void deselect(int s) {
        selected[s] = NOTHING;
        viewLength[s] = 0;
    }

    private int deselectAll() {
        int had = 0;
        for (int s = 0; s < SESSIONS; s++) {
            if (selected[s] != NOTHING) {
                deselect(s);
                had++;
            }
        }
        return had;
    }

    private int faultsOfMailbox(int m) {
        int found = 0;
        if (validity[m] < 1 || validity[m] > greatestValidity) {
            found++;
        }
        int last = 0;
        for (int i = 0; i < messages[m]; i++) {
            int cell = m * MOST_MESSAGES + i;
            if (numberIn[cell] <= last || numberIn[cell] >= next[m]) {
                found++;
            }
            if (!goodSize(sizeIn[cell]) || !goodFlags(flagsIn[cell])) {
                found++;
            }
            if (changeIn[cell] <= FIRST_HIGHEST || changeIn[cell] > highest[m]) {
                found++;
            }
            last = numberIn[cell];
        }
        return found;
    }

    private int faultsOfView(int s) {
        int m = selected[s];
        if (m == NOTHING) {
            return viewLength[s] == 0 ? 0 : 1;
        }
        int found = there[m] ? 0 : 1;
        int last = 0;
        for (int place = 1; place <= viewLength[s]; place++) {
            int number = view[viewCell(s, place)];
            if (number <= last || number >= next[m]) {
                found++;
            }
            last = number;
        }
        return found;
    }
}
