/** One method a promise of the document: ordinary inputs, the edges that it names, and wrong inputs. */
public final class PromisesTest {
    private static final int BAD = -1;
    private static final int NONE = -2;
    private static final int FULL = -3;
    private static final int GONE = -4;
    private static final int EXISTS = -5;
    private static final int MIN = Integer.MIN_VALUE;
    private static final int MAX = Integer.MAX_VALUE;
    private static final int[] WRONG_MAILBOXES = {-1, 4, 5, MIN, MAX};
    private static final int[] WRONG_SESSIONS = {-1, 3, 4, MIN, MAX};

    private PromisesTest() {
    }

    public static void main(String[] args) {
        constants();
        promise1NewObject();
        promise2Create();
        promise3Remove();
        promise4Append();
        promise5Status();
        promise6Counting();
        promise7ChangedSince();
        promise8Vanished();
        promise9Select();
        promise10Leave();
        promise11Length();
        promise12NumberAt();
        promise13PlaceOf();
        promise14Fetch();
        promise15Store();
        promise16Expunge();
        promise17Poll();
        promise18Copy();
        promise19Search();
        promise20AppendAndCrash();
        promise21Crash();
        promise22Idle();
        promise23Faults();
        objectsAreApart();
        Due.end();
    }

    /** Mailbox 0 with messages 1 .. n, of sizes 10, 20 .. and without flags. */
    private static MailSessions withMessages(int n) {
        MailSessions x = new MailSessions();
        x.create(0);
        for (int i = 1; i <= n; i++) {
            x.append(0, 10 * i, 0);
        }
        return x;
    }

    /** Sessions 0 and 1 look at messages 1 .. 4 of mailbox 0; session 1 has just taken out message 2. */
    private static MailSessions withGone() {
        MailSessions x = withMessages(4);
        x.select(0, 0);
        x.select(1, 0);
        x.store(1, 2, 32 + 1);
        x.expunge(1);
        return x;
    }

    private static void constants() {
        Due.is("BAD", MailSessions.BAD, BAD);
        Due.is("NONE", MailSessions.NONE, NONE);
        Due.is("FULL", MailSessions.FULL, FULL);
        Due.is("GONE", MailSessions.GONE, GONE);
        Due.is("EXISTS", MailSessions.EXISTS, EXISTS);
    }

    private static void promise1NewObject() {
        MailSessions x = new MailSessions();
        for (int m = 0; m < 4; m++) {
            Due.is("1 status(m, 0)", x.status(m, 0), NONE);
            Due.is("1 select(0, m)", x.select(0, m), NONE);
        }
        for (int s = 0; s < 3; s++) {
            Due.is("1 length(s)", x.length(s), NONE);
            Due.is("1 leave(s)", x.leave(s), NONE);
        }
        Due.is("1 crash()", x.crash(), 0);
        Due.is("1 create(3)", x.create(3), 1);
    }

    private static void promise2Create() {
        MailSessions x = new MailSessions();
        for (int m : WRONG_MAILBOXES) {
            Due.is("2 create(" + m + ")", x.create(m), BAD);
        }
        Due.is("2 create(3)", x.create(3), 1);
        Due.is("2 create(0)", x.create(0), 2);
        Due.is("2 create(3) again", x.create(3), EXISTS);
        Due.is("2 create(1)", x.create(1), 3);
        Due.is("2 status(1, 1)", x.status(1, 1), 1);
        Due.is("2 status(1, 2)", x.status(1, 2), 1);
        Due.is("2 status(1, 3)", x.status(1, 3), 0);
        x.append(1, 5, 1);
        x.append(1, 5, 2);
        Due.is("2 create(1) with messages", x.create(1), EXISTS);
        Due.is("2 status(1, 3) after EXISTS", x.status(1, 3), 2);
        x.remove(1);
        Due.is("2 create(2) after a removal", x.create(2), 4);
        Due.is("2 create(1) anew", x.create(1), 5);
        Due.is("2 status(1, 1) anew", x.status(1, 1), 1);
        Due.is("2 status(1, 2) anew", x.status(1, 2), 1);
        Due.is("2 status(1, 3) anew", x.status(1, 3), 0);
        x.crash();
        x.remove(1);
        Due.is("2 create(1) after a crash", x.create(1), 6);
    }

    private static void promise3Remove() {
        MailSessions x = withMessages(3);
        for (int m : WRONG_MAILBOXES) {
            Due.is("3 remove(" + m + ")", x.remove(m), BAD);
        }
        Due.is("3 remove(1)", x.remove(1), NONE);
        x.create(1);
        x.append(1, 1, 0);
        x.select(0, 0);
        x.select(1, 1);
        x.select(2, 0);
        Due.is("3 remove(0)", x.remove(0), 3);
        Due.is("3 remove(0) again", x.remove(0), NONE);
        Due.is("3 status(0, 3)", x.status(0, 3), NONE);
        Due.is("3 length(0)", x.length(0), NONE);
        Due.is("3 length(1)", x.length(1), 1);
        Due.is("3 length(2)", x.length(2), NONE);
        Due.is("3 numberAt(0, 1)", x.numberAt(0, 1), NONE);
        x.create(0);
        Due.is("3 length(0) when it is made anew", x.length(0), NONE);
        Due.is("3 poll(2) when it is made anew", x.poll(2), NONE);
        Due.is("3 remove(0) when empty", x.remove(0), 0);
        Due.is("3 status(1, 3)", x.status(1, 3), 1);
    }

    private static void promise4Append() {
        MailSessions x = new MailSessions();
        x.create(0);
        for (int m : WRONG_MAILBOXES) {
            Due.is("4 append(" + m + ", 1, 0)", x.append(m, 1, 0), BAD);
        }
        for (int size : new int[] {0, -1, 1001, MIN, MAX}) {
            Due.is("4 append(0, " + size + ", 0)", x.append(0, size, 0), BAD);
            Due.is("4 append(1, " + size + ", 0), not there", x.append(1, size, 0), BAD);
        }
        for (int flags : new int[] {-1, 32, MIN, MAX}) {
            Due.is("4 append(0, 1, " + flags + ")", x.append(0, 1, flags), BAD);
        }
        Due.is("4 append(1, 1, 0), not there", x.append(1, 1, 0), NONE);
        Due.is("4 status(0, 1) after refusals", x.status(0, 1), 1);
        Due.is("4 status(0, 2) after refusals", x.status(0, 2), 1);
        Due.is("4 append(0, 1, 0)", x.append(0, 1, 0), 1);
        Due.is("4 append(0, 1000, 31)", x.append(0, 1000, 31), 2);
        Due.is("4 status(0, 1)", x.status(0, 1), 3);
        Due.is("4 status(0, 2)", x.status(0, 2), 3);
        x.select(0, 0);
        Due.is("4 fetch(0, 1, 1)", x.fetch(0, 1, 1), 1);
        Due.is("4 fetch(0, 2, 1)", x.fetch(0, 2, 1), 1000);
        Due.is("4 fetch(0, 2, 0)", x.fetch(0, 2, 0), 31);
        Due.is("4 fetch(0, 1, 2)", x.fetch(0, 1, 2), 2);
        Due.is("4 fetch(0, 2, 2)", x.fetch(0, 2, 2), 3);
        for (int i = 3; i <= 14; i++) {
            Due.is("4 append until fourteen", x.append(0, i, 0), i);
        }
        Due.is("4 append to fourteen", x.append(0, 1, 0), FULL);
        Due.is("4 append to fourteen, wrong size", x.append(0, 0, 0), BAD);
        Due.is("4 status(0, 1) when full", x.status(0, 1), 15);
        Due.is("4 status(0, 2) when full", x.status(0, 2), 15);
        Due.is("4 length(0) has not grown", x.length(0), 2);
        x.expunge(0);
        Due.is("4 append: a number never comes again", x.append(0, 1, 0), 15);
        x.create(3);
        Due.is("4 append(3, 1, 0): its own numbers", x.append(3, 1, 0), 1);
    }

    private static void promise5Status() {
        MailSessions x = new MailSessions();
        x.create(3);
        x.create(0);
        x.append(0, 7, 1);
        x.append(0, 7, 0);
        x.append(0, 7, 0);
        x.select(0, 0);
        x.store(0, 2, 4);
        x.expunge(0);
        Due.is("5 status(0, 0)", x.status(0, 0), 2);
        Due.is("5 status(0, 1)", x.status(0, 1), 4);
        Due.is("5 status(0, 2)", x.status(0, 2), 6);
        Due.is("5 status(0, 3)", x.status(0, 3), 2);
        Due.is("5 status(3, 0)", x.status(3, 0), 1);
        for (int m : WRONG_MAILBOXES) {
            Due.is("5 status(" + m + ", 0)", x.status(m, 0), BAD);
        }
        for (int what : new int[] {-1, 4, MIN, MAX}) {
            Due.is("5 status(0, " + what + ")", x.status(0, what), BAD);
            Due.is("5 status(1, " + what + "), not there", x.status(1, what), BAD);
        }
        for (int what = 0; what < 4; what++) {
            Due.is("5 status(1, " + what + ")", x.status(1, what), NONE);
        }
    }

    private static void promise6Counting() {
        MailSessions x = new MailSessions();
        x.create(0);
        Due.is("6 counting(0, 0), empty", x.counting(0, 0), 0);
        for (int flags : new int[] {0, 1, 3, 5, 31}) {
            x.append(0, 1, flags);
        }
        Due.is("6 all: mask 0", x.counting(0, 0), 5);
        Due.is("6 flag 0 set", x.counting(0, 32 * 1 + 1), 4);
        Due.is("6 flag 0 not set", x.counting(0, 32 * 1), 1);
        Due.is("6 of 0 and 1 just 0", x.counting(0, 32 * 3 + 1), 2);
        Due.is("6 of 0 and 1 both", x.counting(0, 32 * 3 + 3), 2);
        Due.is("6 of 0 and 1 just 1", x.counting(0, 32 * 3 + 2), 0);
        Due.is("6 no flag at all", x.counting(0, 32 * 31), 1);
        Due.is("6 all flags: 1023", x.counting(0, 1023), 1);
        Due.is("6 flags outside the mask say nothing", x.counting(0, 32 * 1 + 31), 4);
        Due.is("6 mask 0, flags 31", x.counting(0, 31), 5);
        for (int m : WRONG_MAILBOXES) {
            Due.is("6 counting(" + m + ", 0)", x.counting(m, 0), BAD);
        }
        for (int code : new int[] {-1, 1024, MIN, MAX}) {
            Due.is("6 counting(0, " + code + ")", x.counting(0, code), BAD);
            Due.is("6 counting(1, " + code + "), not there", x.counting(1, code), BAD);
        }
        Due.is("6 counting(1, 0)", x.counting(1, 0), NONE);
    }

    private static void promise7ChangedSince() {
        MailSessions x = withMessages(3);
        x.select(0, 0);
        x.store(0, 1, 2);
        Due.is("7 since 0", x.changedSince(0, 0, 0), 1);
        Due.is("7 since 0 after 1", x.changedSince(0, 0, 1), 2);
        Due.is("7 since 3 after 1", x.changedSince(0, 3, 1), 3);
        Due.is("7 since 4", x.changedSince(0, 4, 0), 1);
        Due.is("7 since 4 after 1", x.changedSince(0, 4, 1), NONE);
        Due.is("7 since 5", x.changedSince(0, 5, 0), NONE);
        Due.is("7 least ints", x.changedSince(0, MIN, MIN), 1);
        Due.is("7 greatest change", x.changedSince(0, MAX, MIN), NONE);
        Due.is("7 greatest after", x.changedSince(0, MIN, MAX), NONE);
        Due.is("7 after the last", x.changedSince(0, 0, 3), NONE);
        x.store(0, 1, 1);
        x.expunge(0);
        Due.is("7 not one taken out", x.changedSince(0, 0, 0), 2);
        x.store(0, 2, 1);
        x.expunge(0);
        Due.is("7 not the last one when it is taken out", x.changedSince(0, 0, 2), NONE);
        for (int m : WRONG_MAILBOXES) {
            Due.is("7 changedSince(" + m + ", 0, 0)", x.changedSince(m, 0, 0), BAD);
        }
        Due.is("7 not there", x.changedSince(1, 0, 0), NONE);
        x.remove(0);
        Due.is("7 there no more", x.changedSince(0, 0, 0), NONE);
    }

    private static void promise8Vanished() {
        MailSessions x = withGone();
        Due.is("8 vanished(0, 1)", x.vanished(0, 1), 0);
        Due.is("8 vanished(0, 2)", x.vanished(0, 2), 1);
        Due.is("8 vanished(0, 4)", x.vanished(0, 4), 0);
        for (int number : new int[] {0, -1, 5, 6, MIN, MAX}) {
            Due.is("8 vanished(0, " + number + "), never there", x.vanished(0, number), 0);
        }
        x.appendAndCrash(0, 32, 3);
        Due.is("8 vanished(0, 5), it never came", x.vanished(0, 5), 0);
        x.select(0, 0);
        x.store(0, 1, 1);
        x.store(0, 3, 1);
        x.expunge(0);
        Due.is("8 vanished(0, 1), the first one", x.vanished(0, 1), 1);
        Due.is("8 vanished(0, 3)", x.vanished(0, 3), 0);
        Due.is("8 vanished(0, 4), the last one", x.vanished(0, 4), 1);
        for (int m : WRONG_MAILBOXES) {
            Due.is("8 vanished(" + m + ", 2)", x.vanished(m, 2), BAD);
        }
        Due.is("8 vanished(1, 2)", x.vanished(1, 2), NONE);
        x.remove(0);
        Due.is("8 vanished(0, 2), there no more", x.vanished(0, 2), NONE);
        x.create(0);
        Due.is("8 vanished(0, 2), made anew", x.vanished(0, 2), 0);
    }

    private static void promise9Select() {
        MailSessions x = withMessages(2);
        x.create(1);
        for (int s : WRONG_SESSIONS) {
            Due.is("9 select(" + s + ", 0)", x.select(s, 0), BAD);
            Due.is("9 select(" + s + ", 2), not there", x.select(s, 2), BAD);
        }
        for (int m : WRONG_MAILBOXES) {
            Due.is("9 select(0, " + m + ")", x.select(0, m), BAD);
        }
        Due.is("9 nothing is selected after refusals", x.length(0), NONE);
        Due.is("9 select(0, 0)", x.select(0, 0), 2);
        Due.is("9 select(1, 0)", x.select(1, 0), 2);
        Due.is("9 select(0, 2)", x.select(0, 2), NONE);
        Due.is("9 refused: still selected", x.numberAt(0, 2), 2);
        x.append(0, 5, 0);
        Due.is("9 select(0, 0) again has all", x.select(0, 0), 3);
        Due.is("9 numberAt(0, 3)", x.numberAt(0, 3), 3);
        Due.is("9 the other view is its own", x.length(1), 2);
        Due.is("9 select(0, 1), empty", x.select(0, 1), 0);
        Due.is("9 numberAt(0, 1)", x.numberAt(0, 1), NONE);
        Due.is("9 leave(0)", x.leave(0), 1);
        x.store(1, 1, 1);
        x.expunge(1);
        Due.is("9 select(2, 0) without what was taken out", x.select(2, 0), 2);
        Due.is("9 numberAt(2, 1)", x.numberAt(2, 1), 2);
    }

    private static void promise10Leave() {
        MailSessions x = withMessages(1);
        x.create(3);
        x.select(0, 0);
        x.select(2, 3);
        for (int s : WRONG_SESSIONS) {
            Due.is("10 leave(" + s + ")", x.leave(s), BAD);
        }
        Due.is("10 leave(1)", x.leave(1), NONE);
        Due.is("10 leave(0)", x.leave(0), 0);
        Due.is("10 leave(0) again", x.leave(0), NONE);
        Due.is("10 numberAt(0, 1)", x.numberAt(0, 1), NONE);
        Due.is("10 length(2)", x.length(2), 0);
        Due.is("10 leave(2)", x.leave(2), 3);
        Due.is("10 the mailbox stays", x.status(0, 3), 1);
    }

    private static void promise11Length() {
        MailSessions x = withGone();
        for (int s : WRONG_SESSIONS) {
            Due.is("11 length(" + s + ")", x.length(s), BAD);
        }
        Due.is("11 length(2)", x.length(2), NONE);
        Due.is("11 length(0): a gone one is still in view", x.length(0), 4);
        Due.is("11 length(1)", x.length(1), 3);
        x.append(0, 1, 0);
        Due.is("11 length(0): a new one is not in view", x.length(0), 4);
        x.create(1);
        x.select(2, 1);
        Due.is("11 length(2), empty", x.length(2), 0);
    }

    private static void promise12NumberAt() {
        MailSessions x = withGone();
        for (int s : WRONG_SESSIONS) {
            Due.is("12 numberAt(" + s + ", 1)", x.numberAt(s, 1), BAD);
        }
        for (int place : new int[] {0, -1, 5, MIN, MAX}) {
            Due.is("12 numberAt(0, " + place + ")", x.numberAt(0, place), NONE);
        }
        for (int place = 1; place <= 4; place++) {
            Due.is("12 numberAt(0, " + place + ")", x.numberAt(0, place), place);
        }
        Due.is("12 numberAt(1, 1)", x.numberAt(1, 1), 1);
        Due.is("12 numberAt(1, 2)", x.numberAt(1, 2), 3);
        Due.is("12 numberAt(1, 3)", x.numberAt(1, 3), 4);
        Due.is("12 numberAt(1, 4)", x.numberAt(1, 4), NONE);
        Due.is("12 numberAt(2, 1)", x.numberAt(2, 1), NONE);
        MailSessions full = withMessages(14);
        full.select(2, 0);
        Due.is("12 numberAt(2, 14)", full.numberAt(2, 14), 14);
        Due.is("12 numberAt(2, 15)", full.numberAt(2, 15), NONE);
    }

    private static void promise13PlaceOf() {
        MailSessions x = withGone();
        for (int s : WRONG_SESSIONS) {
            Due.is("13 placeOf(" + s + ", 1)", x.placeOf(s, 1), BAD);
        }
        Due.is("13 placeOf(0, 1)", x.placeOf(0, 1), 1);
        Due.is("13 placeOf(0, 2), gone", x.placeOf(0, 2), 2);
        Due.is("13 placeOf(1, 2)", x.placeOf(1, 2), NONE);
        Due.is("13 placeOf(1, 4)", x.placeOf(1, 4), 3);
        Due.is("13 placeOf(2, 1)", x.placeOf(2, 1), NONE);
        x.append(0, 1, 0);
        for (int number : new int[] {0, -1, 5, 6, MIN, MAX}) {
            Due.is("13 placeOf(0, " + number + ")", x.placeOf(0, number), NONE);
        }
        x.leave(0);
        Due.is("13 placeOf(0, 1), left", x.placeOf(0, 1), NONE);
    }

    private static void promise14Fetch() {
        MailSessions x = withGone();
        x.store(0, 3, 6);
        for (int s : WRONG_SESSIONS) {
            Due.is("14 fetch(" + s + ", 1, 0)", x.fetch(s, 1, 0), BAD);
        }
        for (int what : new int[] {-1, 3, MIN, MAX}) {
            Due.is("14 fetch(0, 1, " + what + ")", x.fetch(0, 1, what), BAD);
            Due.is("14 fetch(2, 1, " + what + "), nothing selected", x.fetch(2, 1, what), BAD);
            Due.is("14 fetch(0, 2, " + what + "), gone", x.fetch(0, 2, what), BAD);
        }
        for (int place : new int[] {0, -1, 5, MIN, MAX}) {
            Due.is("14 fetch(0, " + place + ", 0)", x.fetch(0, place, 0), NONE);
        }
        Due.is("14 fetch(2, 1, 0)", x.fetch(2, 1, 0), NONE);
        for (int what = 0; what < 3; what++) {
            Due.is("14 fetch(0, 2, " + what + ")", x.fetch(0, 2, what), GONE);
        }
        Due.is("14 fetch(0, 3, 0)", x.fetch(0, 3, 0), 6);
        Due.is("14 fetch(0, 3, 1)", x.fetch(0, 3, 1), 30);
        Due.is("14 fetch(0, 3, 2)", x.fetch(0, 3, 2), 8);
        Due.is("14 fetch(1, 2, 0), the same message", x.fetch(1, 2, 0), 6);
        Due.is("14 fetch(0, 4, 1)", x.fetch(0, 4, 1), 40);
        Due.is("14 fetch(0, 4, 2)", x.fetch(0, 4, 2), 5);
    }

    private static void promise15Store() {
        MailSessions x = withMessages(3);
        x.select(0, 0);
        x.select(1, 0);
        for (int s : WRONG_SESSIONS) {
            Due.is("15 store(" + s + ", 1, 0)", x.store(s, 1, 0), BAD);
        }
        for (int code : new int[] {-1, 96, MIN, MAX}) {
            Due.is("15 store(0, 1, " + code + ")", x.store(0, 1, code), BAD);
            Due.is("15 store(2, 1, " + code + "), nothing selected", x.store(2, 1, code), BAD);
        }
        for (int place : new int[] {0, -1, 4, MIN, MAX}) {
            Due.is("15 store(0, " + place + ", 1)", x.store(0, place, 1), NONE);
        }
        Due.is("15 store(2, 1, 1)", x.store(2, 1, 1), NONE);
        Due.is("15 refused: no change", x.status(0, 2), 4);
        Due.is("15 become", x.store(0, 2, 6), 6);
        Due.is("15 a change", x.status(0, 2), 5);
        Due.is("15 its change", x.fetch(0, 2, 2), 5);
        Due.is("15 get", x.store(0, 2, 32 + 3), 7);
        Due.is("15 lose", x.store(0, 2, 64 + 10), 5);
        Due.is("15 become again", x.store(0, 2, 24), 24);
        Due.is("15 four changes", x.fetch(0, 2, 2), 8);
        Due.is("15 become the same", x.store(0, 2, 24), 24);
        Due.is("15 get what it has", x.store(0, 2, 32 + 8), 24);
        Due.is("15 lose what it does not have", x.store(0, 2, 64 + 7), 24);
        Due.is("15 no change to it", x.fetch(0, 2, 2), 8);
        Due.is("15 no change to the mailbox", x.status(0, 2), 8);
        Due.is("15 seen by the other session", x.fetch(1, 2, 0), 24);
        Due.is("15 not the one before", x.fetch(0, 1, 0), 0);
        Due.is("15 not the one after", x.fetch(0, 3, 2), 4);
        Due.is("15 code 95", x.store(0, 2, 95), 0);
        Due.is("15 code 31", x.store(0, 2, 31), 31);
        x.expunge(1);
        Due.is("15 gone", x.store(0, 2, 0), GONE);
        Due.is("15 gone, wrong code", x.store(0, 2, 96), BAD);
        Due.is("15 places do not move", x.store(0, 3, 2), 2);
        Due.is("15 size stays", x.fetch(0, 3, 1), 30);
    }

    private static void promise16Expunge() {
        MailSessions x = withMessages(5);
        x.select(0, 0);
        x.select(1, 0);
        for (int s : WRONG_SESSIONS) {
            Due.is("16 expunge(" + s + ")", x.expunge(s), BAD);
        }
        Due.is("16 expunge(2)", x.expunge(2), NONE);
        Due.is("16 none to be deleted", x.expunge(0), 0);
        Due.is("16 no change", x.status(0, 2), 6);
        x.store(0, 2, 1);
        x.store(0, 3, 31);
        x.store(0, 4, 30);
        x.append(0, 60, 1);
        x.append(0, 70, 2);
        Due.is("16 also what is not in the view", x.expunge(0), 3);
        Due.is("16 highest", x.status(0, 2), 14);
        Due.is("16 messages left", x.status(0, 3), 4);
        Due.is("16 next stays", x.status(0, 1), 8);
        Due.is("16 left the view, none came", x.length(0), 3);
        Due.is("16 numberAt(0, 2)", x.numberAt(0, 2), 4);
        Due.is("16 what stays is as it was: flags", x.fetch(0, 2, 0), 30);
        Due.is("16 what stays is as it was: size", x.fetch(0, 2, 1), 40);
        Due.is("16 what stays is as it was: change", x.fetch(0, 2, 2), 9);
        Due.is("16 the other view stays", x.length(1), 5);
        Due.is("16 the other one sees it gone", x.fetch(1, 3, 0), GONE);
        Due.is("16 takes none out", x.expunge(1), 0);
        Due.is("16 but all that are gone leave the view", x.length(1), 3);
        x.create(1);
        x.append(1, 1, 1);
        x.store(0, 1, 1);
        Due.is("16 only of the selected mailbox", x.expunge(0), 1);
        Due.is("16 the other mailbox stays", x.status(1, 3), 1);
    }

    private static void promise17Poll() {
        MailSessions x = withGone();
        for (int s : WRONG_SESSIONS) {
            Due.is("17 poll(" + s + ")", x.poll(s), BAD);
        }
        Due.is("17 poll(2)", x.poll(2), NONE);
        x.append(0, 50, 0);
        x.append(0, 60, 1);
        Due.is("17 one left, two came", x.poll(0), 3);
        Due.is("17 length(0)", x.length(0), 5);
        Due.is("17 numberAt(0, 2)", x.numberAt(0, 2), 3);
        Due.is("17 numberAt(0, 5)", x.numberAt(0, 5), 6);
        Due.is("17 again", x.poll(0), 0);
        Due.is("17 the other view stays", x.length(1), 3);
        Due.is("17 no message is taken out", x.status(0, 3), 5);
        Due.is("17 two came", x.poll(1), 2);
        x.expunge(1);
        Due.is("17 one left", x.poll(0), 1);
        Due.is("17 no change by a poll", x.status(0, 2), 10);
        MailSessions full = withMessages(14);
        full.select(0, 0);
        full.select(1, 0);
        for (int place = 1; place <= 14; place++) {
            full.store(1, place, 1);
        }
        full.expunge(1);
        for (int i = 0; i < 14; i++) {
            full.append(0, 9, 0);
        }
        Due.is("17 fourteen left and fourteen came", full.poll(0), 28);
        Due.is("17 numberAt(0, 1)", full.numberAt(0, 1), 15);
        Due.is("17 numberAt(0, 14)", full.numberAt(0, 14), 28);
        Due.is("17 length(0), full", full.length(0), 14);
    }

    private static void promise18Copy() {
        MailSessions x = withGone();
        x.create(1);
        x.append(1, 99, 0);
        x.store(0, 3, 5);
        for (int s : WRONG_SESSIONS) {
            Due.is("18 copy(" + s + ", 1, 0)", x.copy(s, 1, 0), BAD);
        }
        for (int m : WRONG_MAILBOXES) {
            Due.is("18 copy(0, 1, " + m + ")", x.copy(0, 1, m), BAD);
            Due.is("18 copy(2, 1, " + m + "), nothing selected", x.copy(2, 1, m), BAD);
            Due.is("18 copy(0, 2, " + m + "), gone", x.copy(0, 2, m), BAD);
        }
        for (int place : new int[] {0, -1, 5, MIN, MAX}) {
            Due.is("18 copy(0, " + place + ", 1)", x.copy(0, place, 1), NONE);
        }
        Due.is("18 nothing selected", x.copy(2, 1, 1), NONE);
        Due.is("18 gone", x.copy(0, 2, 1), GONE);
        Due.is("18 gone, to one not there", x.copy(0, 2, 2), GONE);
        Due.is("18 to one not there", x.copy(0, 1, 2), NONE);
        Due.is("18 refused: nothing came", x.status(1, 3), 1);
        Due.is("18 copy(0, 3, 1)", x.copy(0, 3, 1), 2);
        Due.is("18 highest there", x.status(1, 2), 3);
        Due.is("18 highest here", x.status(0, 2), 8);
        x.select(2, 1);
        Due.is("18 flags", x.fetch(2, 2, 0), 5);
        Due.is("18 size", x.fetch(2, 2, 1), 30);
        Due.is("18 change", x.fetch(2, 2, 2), 3);
        Due.is("18 to the selected one", x.copy(0, 4, 0), 5);
        Due.is("18 it is not in the view yet", x.length(0), 4);
        Due.is("18 highest", x.status(0, 2), 9);
        Due.is("18 poll(0)", x.poll(0), 2);
        Due.is("18 fetch(0, 4, 1)", x.fetch(0, 4, 1), 40);
        for (int n = 6; n <= 15; n++) {
            Due.is("18 until fourteen", x.copy(0, 1, 0), n);
        }
        Due.is("18 full", x.copy(0, 1, 0), FULL);
        Due.is("18 full, no such place", x.copy(0, 9, 0), NONE);
        x.store(0, 1, 1);
        x.select(1, 0);
        x.expunge(1);
        x.append(0, 1, 0);
        x.append(0, 1, 0);
        Due.is("18 full and gone", x.copy(0, 1, 0), GONE);
    }

    private static void promise19Search() {
        MailSessions x = withGone();
        x.store(0, 1, 3);
        x.store(0, 3, 7);
        for (int s : WRONG_SESSIONS) {
            Due.is("19 search(" + s + ", 0, 0, 0)", x.search(s, 0, 0, 0), BAD);
        }
        for (int code : new int[] {-1, 1024, MIN, MAX}) {
            Due.is("19 search(0, " + code + ", 0, 0)", x.search(0, code, 0, 0), BAD);
            Due.is("19 search(2, " + code + ", 0, 0), nothing selected", x.search(2, code, 0, 0), BAD);
        }
        Due.is("19 nothing selected", x.search(2, 0, 0, 0), NONE);
        Due.is("19 any", x.search(0, 0, 0, 0), 1);
        Due.is("19 after 1: a gone one does not count", x.search(0, 0, 0, 1), 3);
        Due.is("19 after 4", x.search(0, 0, 0, 4), NONE);
        Due.is("19 the place, not the number", x.search(1, 0, 0, 1), 2);
        Due.is("19 size 30", x.search(0, 0, 30, 0), 3);
        Due.is("19 size 31", x.search(0, 0, 31, 0), 4);
        Due.is("19 size 41", x.search(0, 0, 41, 0), NONE);
        Due.is("19 flags", x.search(0, 32 * 4 + 4, 0, 0), 3);
        Due.is("19 no flags", x.search(0, 32 * 31, 0, 0), 4);
        Due.is("19 of 1 and 2 just 1", x.search(0, 32 * 6 + 2, 0, 0), 1);
        Due.is("19 of 1 and 2 just 1, after 1", x.search(0, 32 * 6 + 2, 0, 1), NONE);
        Due.is("19 flags outside the mask say nothing", x.search(0, 32 * 4 + 31, 0, 0), 3);
        Due.is("19 all flags", x.search(0, 1023, 0, 0), NONE);
        Due.is("19 least ints", x.search(0, 0, MIN, MIN), 1);
        Due.is("19 greatest size", x.search(0, 0, MAX, MIN), NONE);
        Due.is("19 greatest after", x.search(0, 0, MIN, MAX), NONE);
        x.append(0, 1000, 0);
        Due.is("19 not one outside the view", x.search(0, 0, 500, 0), NONE);
    }

    private static void promise20AppendAndCrash() {
        MailSessions x = withMessages(2);
        x.select(0, 0);
        x.select(2, 0);
        for (int m : WRONG_MAILBOXES) {
            Due.is("20 appendAndCrash(" + m + ", 32, 0)", x.appendAndCrash(m, 32, 0), BAD);
        }
        for (int code : new int[] {-1, -32, MIN, 0, 31, 32 * 1001, MAX}) {
            Due.is("20 appendAndCrash(0, " + code + ", 0)", x.appendAndCrash(0, code, 0), BAD);
            Due.is("20 appendAndCrash(1, " + code + ", 0), not there", x.appendAndCrash(1, code, 0), BAD);
        }
        Due.is("20 not there", x.appendAndCrash(1, 32, 0), NONE);
        Due.is("20 refused: no crash", x.length(0), 2);
        Due.is("20 code 32", x.appendAndCrash(0, 32, 1), 0);
        Due.is("20 a crash: length(0)", x.length(0), NONE);
        Due.is("20 a crash: length(2)", x.length(2), NONE);
        Due.is("20 the greatest code", x.appendAndCrash(0, 32 * 1000 + 31, MAX), 0);
        Due.is("20 steps below 0", x.appendAndCrash(0, 64, MIN), 0);
        Due.is("20 validity", x.status(0, 0), 1);
        Due.is("20 next", x.status(0, 1), 3);
        Due.is("20 highest", x.status(0, 2), 3);
        Due.is("20 messages", x.status(0, 3), 2);
        Due.is("20 vanished(0, 3)", x.vanished(0, 3), 0);
        Due.is("20 append", x.append(0, 5, 0), 3);
        for (int i = 4; i <= 14; i++) {
            x.append(0, 5, 0);
        }
        x.select(1, 0);
        Due.is("20 full", x.appendAndCrash(0, 32, 2), FULL);
        Due.is("20 full, wrong code", x.appendAndCrash(0, 31, 2), BAD);
        Due.is("20 full: no crash", x.length(1), 14);
    }

    private static void promise21Crash() {
        MailSessions x = withMessages(2);
        x.create(1);
        Due.is("21 none selected", x.crash(), 0);
        x.select(0, 0);
        x.select(2, 1);
        Due.is("21 two selected", x.crash(), 2);
        Due.is("21 again", x.crash(), 0);
        for (int s = 0; s < 3; s++) {
            Due.is("21 length(s)", x.length(s), NONE);
            Due.is("21 numberAt(s, 1)", x.numberAt(s, 1), NONE);
            x.select(s, 0);
        }
        x.store(0, 1, 1);
        Due.is("21 three selected", x.crash(), 3);
        Due.is("21 messages stay", x.status(0, 3), 2);
        Due.is("21 next stays", x.status(0, 1), 3);
        Due.is("21 highest stays", x.status(0, 2), 4);
        Due.is("21 flags stay", x.counting(0, 32 + 1), 1);
        Due.is("21 select(0, 0)", x.select(0, 0), 2);
        x.leave(0);
        Due.is("21 one that left does not count", x.crash(), 0);
    }

    private static void promise22Idle() {
        MailSessions x = withGone();
        x.store(0, 1, 1);
        x.append(0, 9, 1);
        int[] all = {MIN, -1, 0, 1, 2, 3, 4, 100, MAX};
        for (int m : all) {
            for (int steps : all) {
                x.idle(m, steps);
            }
        }
        Due.is("22 status(0, 0)", x.status(0, 0), 1);
        Due.is("22 status(0, 1)", x.status(0, 1), 6);
        Due.is("22 status(0, 2)", x.status(0, 2), 9);
        Due.is("22 status(0, 3)", x.status(0, 3), 4);
        Due.is("22 status(1, 0)", x.status(1, 0), NONE);
        Due.is("22 length(0)", x.length(0), 4);
        Due.is("22 length(1)", x.length(1), 3);
        Due.is("22 length(2)", x.length(2), NONE);
        Due.is("22 fetch(0, 2, 0)", x.fetch(0, 2, 0), GONE);
        Due.is("22 fetch(0, 1, 2)", x.fetch(0, 1, 2), 8);
        Due.is("22 counting", x.counting(0, 32 + 1), 2);
        Due.is("22 vanished(0, 2)", x.vanished(0, 2), 1);
    }

    private static void promise23Faults() {
        MailSessions x = new MailSessions();
        Due.is("23 new", x.faults(), 0);
        x = withGone();
        Due.is("23 with a gone message", x.faults(), 0);
        x.append(0, 1000, 31);
        x.expunge(0);
        Due.is("23 after expunge", x.faults(), 0);
        x.poll(1);
        x.crash();
        Due.is("23 after a crash", x.faults(), 0);
        x.select(0, 0);
        x.appendAndCrash(0, 32, 1);
        x.select(0, 0);
        x.remove(0);
        Due.is("23 after a removal", x.faults(), 0);
        x.create(0);
        Due.is("23 made anew", x.faults(), 0);
        MailSessions full = withMessages(14);
        full.select(0, 0);
        Due.is("23 full", full.faults(), 0);
    }

    private static void objectsAreApart() {
        MailSessions x = withMessages(3);
        MailSessions y = new MailSessions();
        Due.is("another object has no mailboxes", y.status(0, 3), NONE);
        Due.is("another object has its own validities", y.create(2), 1);
        Due.is("the first one is as it was", x.status(0, 3), 3);
    }
}
