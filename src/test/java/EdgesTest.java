/** The edges that the document's sentences name, where the call is not refused: a method a sentence, by the promises' numbers. */
public final class EdgesTest {
    private static final int BAD = Run.BAD;
    private static final int NONE = Run.NONE;
    private static final int FULL = Run.FULL;
    private static final int GONE = Run.GONE;
    private static final int EXISTS = Run.EXISTS;
    private static final int MIN = Run.MIN;
    private static final int MAX = Run.MAX;
    private static final int ALL_FLAGS = 31;
    private static final int GETS = 32;
    private static final int LOSES = 64;
    private static final int DELETED = 1;

    private EdgesTest() {
    }

    public static void main(String[] args) {
        terms();
        making();
        asking();
        looking();
        changing();
        crashing();
        Due.end();
    }

    private static void terms() {
        thereAreFourMailboxes();
        thereAreThreeSessions();
        messagesAreInTheOrderOfTheirNumbers();
        eachMailboxHasItsOwnNumbersAndChanges();
        anObjectHoldsToItsLastCall();
    }

    private static void making() {
        newObjectHasNothing();
        validityOfTheFirstIsOne();
        validityIsAboveTheGreatestEver();
        validitiesGrowOverManyMailboxes();
        madeAnewIsEmpty();
        removeCountsMessages();
        removeDeselectsJustItsSessions();
        sizesOfAppend();
        flagsOfAppend();
        fourteenMessages();
        roomAfterFourteen();
        numbersNeverComeAgain();
        numbersGrowOverManyMessages();
    }

    private static void asking() {
        statusOfAnEmptyAndOfAFullMailbox();
        countingOfAnEmptyAndOfAFullMailbox();
        countingByEveryCode();
        changedSinceIsGreaterThanChange();
        changedSinceIsGreaterThanAfter();
        changedSinceTakesAnyInt();
        changedSinceOfAnEmptyAndOfAFullMailbox();
        vanishedBetweenOneAndNext();
        vanishedOfAnEmptiedMailbox();
        vanishedSinceItWasMade();
        vanishedIsOfItsMailbox();
    }

    private static void looking() {
        selectOfAnEmptyAndOfAFullMailbox();
        selectInPlaceOfAnother();
        selectAgainHasAllMessages();
        leaveAnswersTheMailbox();
        lengthOfAnEmptyAndOfAFullView();
        lengthStaysUntilTheSessionLooks();
        placesOfAView();
        placesOfAFullView();
        placesThatAViewHadOnce();
        placeOfAGoneNumber();
        placeOfANumberOutsideTheView();
        fetchAtTheEdges();
        fetchOfGoneMessages();
        searchBySize();
        searchAfterAPlace();
        searchPassesOverGoneMessages();
        searchByEveryCode();
        searchInAFullView();
    }

    private static void changing() {
        storeByEveryCode();
        storeOfTheSameFlagsIsNoChange();
        storeChangesJustOneMessage();
        expungeOfNone();
        expungeOfAllFourteen();
        expungeOutsideTheView();
        expungeLooksAtFlagZeroAlone();
        expungeDropsWhatOthersTookOut();
        expungeTakesOutFirstAndLast();
        pollOfNothingNew();
        pollOfWhatLeft();
        pollOfWhatCame();
        pollOfWhatCameAndWent();
        pollOfFourteenAndFourteen();
        copyUntilFourteen();
        copyFromAFullMailbox();
        copyOfTheGreatestAndTheLeast();
        copyIsAMessageOfItsOwn();
    }

    private static void crashing() {
        appendAndCrashByTheEdgesOfCode();
        appendAndCrashTakesAnySteps();
        appendAndCrashBelowFourteen();
        appendAndCrashLeavesMailboxesAsBefore();
        crashCountsSessions();
        crashLeavesMailboxesAsBefore();
        idleWhateverTheArguments();
        faultsAreAlwaysZero();
    }

    // Terms

    private static void thereAreFourMailboxes() {
        Run run = new Run("there may be mailboxes 0 .. 3");
        for (int m = 0; m < 4; m++) {
            run.due(m + 1, "create", m).due(1, "append", m, 100 + m, m).due(1, "select", 0, m).due(100 + m, "fetch", 0, 1, 1);
        }
        run.due(BAD, "create", 4).due(BAD, "create", -1);
        for (int m = 0; m < 4; m++) {
            run.due(1, "counting", m, 32 * ALL_FLAGS + m).due(1, "remove", m).due(NONE, "status", m, 0);
        }
    }

    private static void thereAreThreeSessions() {
        Run run = new Run("there are sessions 0 .. 2").filled(0, 1).filled(1, 2).filled(2, 3);
        for (int s = 0; s < 3; s++) {
            run.due(s + 1, "select", s, s).due(s + 1, "placeOf", s, s + 1);
        }
        run.due(BAD, "select", 3, 0).due(BAD, "select", -1, 0);
        run.view(0, 1).view(1, 1, 2).view(2, 1, 2, 3);
        for (int s = 0; s < 3; s++) {
            run.due(s, "leave", s);
        }
    }

    private static void messagesAreInTheOrderOfTheirNumbers() {
        Run run = new Run("messages are kept in the order of their numbers").filled(0, 5).did("select", 0, 0);
        run.did("store", 0, 5, 2).did("store", 0, 1, DELETED).did("store", 0, 3, DELETED).did("expunge", 0);
        run.did("append", 0, 9, 0).did("copy", 0, 1, 0).did("select", 1, 0).view(1, 2, 4, 5, 6, 7);
        run.due(2, "poll", 0).view(0, 2, 4, 5, 6, 7);
    }

    private static void eachMailboxHasItsOwnNumbersAndChanges() {
        Run run = new Run("a mailbox has a next number, a highest change").filled(0, 3).filled(3, 1).did("select", 0, 0);
        run.did("store", 0, 1, 4);
        run.due(4, "status", 0, 1).due(5, "status", 0, 2).due(2, "status", 3, 1).due(2, "status", 3, 2);
    }

    private static void anObjectHoldsToItsLastCall() {
        Run run = new Run("at most 512 calls").did("create", 3).did("select", 2, 3);
        int number = 0;
        while (run.calls() + 17 < Run.MOST_CALLS) {
            for (int i = 0; i < 14; i++) {
                number++;
                run.due(number, "append", 3, 1000, ALL_FLAGS);
            }
            run.due(14, "expunge", 2);
        }
        while (run.calls() < Run.MOST_CALLS - 3) {
            run.due(1, "vanished", 3, number);
        }
        run.due(0, "vanished", 3, number + 1).due(0, "faults").due(1 + 2 * number, "status", 3, 2);
        Due.is("calls of the longest run", run.calls(), Run.MOST_CALLS);
    }

    // Promises 1 to 4

    private static void newObjectHasNothing() {
        Run run = new Run("1: at first there are none, nothing is selected");
        for (int m = 0; m < 4; m++) {
            run.due(NONE, "status", m, 3).due(NONE, "remove", m);
        }
        for (int s = 0; s < 3; s++) {
            run.due(NONE, "length", s);
        }
        run.due(0, "crash").due(0, "faults");
        Run made = new Run("1: nothing is selected when mailboxes come").did("create", 0);
        for (int s = 0; s < 3; s++) {
            made.due(NONE, "length", s).due(NONE, "leave", s);
        }
    }

    private static void validityOfTheFirstIsOne() {
        for (int m = 0; m < 4; m++) {
            Run run = new Run("2: 1 for the first one").due(BAD, "create", -1).due(NONE, "remove", m);
            run.due(1, "create", m).due(1, "status", m, 0);
        }
    }

    private static void validityIsAboveTheGreatestEver() {
        Run run = new Run("2: the greatest that any mailbox ever had").did("create", 0).did("create", 1).did("create", 2);
        run.due(EXISTS, "create", 2).due(BAD, "create", 4);
        run.did("remove", 2).due(4, "create", 2).did("remove", 2).did("remove", 1).did("remove", 0);
        run.due(5, "create", 0).due(5, "status", 0, 0).did("crash").due(6, "create", 3);
        run.did("appendAndCrash", 3, 32, 1).due(7, "create", 1).due(5, "status", 0, 0).due(6, "status", 3, 0);
    }

    private static void validitiesGrowOverManyMailboxes() {
        Run run = new Run("2: greater by 1 each time");
        for (int validity = 1; validity <= 250; validity++) {
            run.due(validity, "create", validity % 4).due(0, "remove", validity % 4);
        }
        run.due(251, "create", 0);
    }

    private static void madeAnewIsEmpty() {
        Run run = new Run("2: without messages, next number 1, highest change 1").filled(0, 14).did("remove", 0).did("create", 0);
        run.due(1, "status", 0, 1).due(1, "status", 0, 2).due(0, "status", 0, 3).due(0, "counting", 0, 0);
        run.due(NONE, "changedSince", 0, MIN, MIN).due(0, "select", 1, 0).view(1).due(NONE, "placeOf", 1, 1);
        run.due(NONE, "search", 1, 0, MIN, MIN).due(1, "append", 0, 1, 0).due(2, "status", 0, 2).due(1, "poll", 1).view(1, 1);
    }

    private static void removeCountsMessages() {
        new Run("3: how many it had, none").did("create", 3).due(0, "remove", 3);
        new Run("3: how many it had, one").filled(0, 1).due(1, "remove", 0);
        new Run("3: how many it had, fourteen").filled(3, 14).due(14, "remove", 3);
        Run run = new Run("3: not those taken out").filled(0, 3).did("select", 0, 0).did("select", 1, 0);
        run.did("store", 0, 2, DELETED).did("expunge", 0).due(3, "length", 1).due(2, "remove", 0).due(NONE, "remove", 0);
    }

    private static void removeDeselectsJustItsSessions() {
        Run all = new Run("3: in all sessions that had it").filled(0, 2);
        all.did("select", 0, 0).did("select", 1, 0).did("select", 2, 0).due(2, "remove", 0);
        all.due(NONE, "length", 0).due(NONE, "leave", 1).due(NONE, "numberAt", 2, 1).due(0, "crash");
        Run empty = new Run("3: also where the view is empty").did("create", 0).did("select", 1, 0).due(0, "remove", 0);
        empty.due(NONE, "length", 1).did("create", 0).due(NONE, "length", 1).due(NONE, "leave", 1).due(0, "crash");
        Run some = new Run("3: not in others").filled(0, 2).filled(1, 3);
        some.did("select", 0, 1).did("select", 1, 0).did("select", 2, 1).due(2, "remove", 0);
        some.view(0, 1, 2, 3).due(NONE, "length", 1).view(2, 1, 2, 3).due(30, "fetch", 2, 3, 1).due(2, "crash");
        Run left = new Run("3: also in those whose messages were gone").filled(0, 2).did("select", 0, 0).did("select", 1, 0);
        left.did("store", 0, 1, DELETED).did("expunge", 0).due(1, "remove", 0).did("create", 0);
        left.due(NONE, "fetch", 1, 1, 0).due(NONE, "length", 1).due(NONE, "poll", 0).due(NONE, "expunge", 1);
    }

    private static void sizesOfAppend() {
        Run run = new Run("4: size 1 .. 1000").did("create", 0).due(BAD, "append", 0, 0, 0).due(1, "append", 0, 1, 0);
        run.due(2, "append", 0, 1000, 0).due(BAD, "append", 0, 1001, 0).due(2, "select", 0, 0);
        run.due(1, "fetch", 0, 1, 1).due(1000, "fetch", 0, 2, 1);
    }

    private static void flagsOfAppend() {
        Run run = new Run("4: flags 0 .. 31").did("create", 0).due(BAD, "append", 0, 1, -1).due(1, "append", 0, 1, 0);
        run.due(2, "append", 0, 1, 31).due(BAD, "append", 0, 1, 32).due(2, "select", 0, 0);
        run.due(0, "fetch", 0, 1, 0).due(31, "fetch", 0, 2, 0);
    }

    private static void fourteenMessages() {
        Run run = new Run("4: at most fourteen").filled(1, 13).due(14, "append", 1, 1000, ALL_FLAGS).due(FULL, "append", 1, 1, 0);
        run.due(15, "status", 1, 1).due(15, "status", 1, 2).due(14, "status", 1, 3).due(14, "select", 0, 1);
        run.due(14, "numberAt", 0, 14).due(1000, "fetch", 0, 14, 1).due(10, "fetch", 0, 1, 1);
        run.did("create", 2).due(1, "append", 2, 7, 0).due(1, "select", 1, 2).due(7, "fetch", 1, 1, 1);
        run.due(10, "fetch", 0, 1, 1).due(1000, "fetch", 0, 14, 1).due(0, "faults");
    }

    private static void roomAfterFourteen() {
        Run run = new Run("4: fourteen are those it has now").filled(0, 14).did("select", 0, 0).did("store", 0, 7, DELETED);
        run.due(FULL, "append", 0, 1, 0).due(1, "expunge", 0).due(15, "append", 0, 1, 0).due(FULL, "append", 0, 1, 0);
    }

    private static void numbersNeverComeAgain() {
        Run run = new Run("4: its number is next").did("create", 0).did("select", 0, 0).due(1, "append", 0, 1, DELETED);
        run.due(1, "expunge", 0).due(2, "status", 0, 1).due(2, "append", 0, 1, DELETED).due(1, "expunge", 0);
        run.due(NONE, "append", 1, 1, 0).due(BAD, "append", 0, 0, 0).due(0, "appendAndCrash", 0, 32, 9).due(3, "append", 0, 1, 0);
    }

    private static void numbersGrowOverManyMessages() {
        Run run = new Run("4: greater by 1 then").did("create", 0).did("select", 0, 0);
        for (int number = 1; number <= 240; number++) {
            run.due(number, "append", 0, 1, DELETED).due(1, "expunge", 0);
        }
        run.due(241, "status", 0, 1).due(481, "status", 0, 2).due(0, "status", 0, 3);
    }

    // Promises 5 to 8

    private static void statusOfAnEmptyAndOfAFullMailbox() {
        Run run = new Run("5: what 0 .. 3").did("create", 3).filled(0, 14);
        run.due(1, "status", 3, 0).due(1, "status", 3, 1).due(1, "status", 3, 2).due(0, "status", 3, 3);
        run.due(2, "status", 0, 0).due(15, "status", 0, 1).due(15, "status", 0, 2).due(14, "status", 0, 3);
        run.due(BAD, "status", 0, -1).due(BAD, "status", 0, 4).due(BAD, "status", 3, MIN).due(BAD, "status", 3, MAX);
    }

    private static void countingOfAnEmptyAndOfAFullMailbox() {
        Run run = new Run("6: code 0 .. 1023").did("create", 3).did("create", 0);
        for (int i = 0; i < 14; i++) {
            run.did("append", 0, 1, ALL_FLAGS);
        }
        run.due(0, "counting", 3, 0).due(0, "counting", 3, 1023).due(14, "counting", 0, 0).due(14, "counting", 0, 1023);
        run.due(BAD, "counting", 0, -1).due(BAD, "counting", 0, 1024).due(0, "counting", 0, 32 * 31);
        run.did("select", 0, 0).did("expunge", 0).due(0, "counting", 0, 0).due(0, "counting", 0, 1023);
    }

    /** Whether a message has, of the flags in mask, just those in flags: said flag by flag. */
    private static boolean fits(int has, int code) {
        boolean fits = true;
        for (int flag = 0; flag < 5; flag++) {
            boolean inMask = (code / 32 >> flag & 1) == 1;
            boolean inFlags = (code % 32 >> flag & 1) == 1;
            boolean hasIt = (has >> flag & 1) == 1;
            fits &= !inMask || hasIt == inFlags;
        }
        return fits;
    }

    /** Mailboxes 0 .. 2 with the 32 sets of flags, fourteen in each as far as they go. */
    private static Run withAllFlags(String sentence) {
        Run run = new Run(sentence).did("create", 0).did("create", 1).did("create", 2);
        for (int flags = 0; flags < 32; flags++) {
            run.did("append", flags / 14, 1, flags);
        }
        return run;
    }

    private static int firstFit(int m, int code) {
        for (int flags = 14 * m; flags < 32 && flags < 14 * m + 14; flags++) {
            if (fits(flags, code)) {
                return flags % 14 + 1;
            }
        }
        return NONE;
    }

    private static int countFits(int m, int code) {
        int count = 0;
        for (int flags = 14 * m; flags < 32 && flags < 14 * m + 14; flags++) {
            count += fits(flags, code) ? 1 : 0;
        }
        return count;
    }

    private static void countingByEveryCode() {
        for (int code = 0; code < 1024; code++) {
            Run run = withAllFlags("6: of the flags in mask, just those in flags");
            for (int m = 0; m < 3; m++) {
                run.due(countFits(m, code), "counting", m, code);
            }
        }
    }

    private static void changedSinceIsGreaterThanChange() {
        Run run = new Run("7: greater than change").filled(0, 3).did("select", 0, 0).did("store", 0, 1, 2);
        run.due(1, "changedSince", 0, 4, 0).due(NONE, "changedSince", 0, 5, 0);
        run.due(3, "changedSince", 0, 3, 1).due(NONE, "changedSince", 0, 4, 1);
        run.due(2, "changedSince", 0, 2, 1).due(3, "changedSince", 0, 3, 2);
        run.did("store", 0, 1, 2).due(NONE, "changedSince", 0, 5, 0);
    }

    private static void changedSinceIsGreaterThanAfter() {
        Run run = new Run("7: the least number greater than after").filled(0, 3);
        run.due(1, "changedSince", 0, 0, -1).due(1, "changedSince", 0, 0, 0).due(2, "changedSince", 0, 0, 1);
        run.due(3, "changedSince", 0, 0, 2).due(NONE, "changedSince", 0, 0, 3).due(NONE, "changedSince", 0, 0, 4);
        run.did("select", 0, 0).did("store", 0, 2, DELETED).did("expunge", 0).due(3, "changedSince", 0, 0, 1);
    }

    private static void changedSinceTakesAnyInt() {
        Run run = new Run("7: any int").filled(0, 2);
        run.due(1, "changedSince", 0, MIN, MIN).due(2, "changedSince", 0, MIN, 1).due(2, "changedSince", 0, 2, MIN);
        run.due(NONE, "changedSince", 0, MAX, MIN).due(NONE, "changedSince", 0, MIN, MAX).due(NONE, "changedSince", 0, MAX, MAX);
        run.due(NONE, "changedSince", 0, MAX - 1, 0).due(NONE, "changedSince", 0, 0, MAX - 1).due(1, "changedSince", 0, -1, -1);
    }

    private static void changedSinceOfAnEmptyAndOfAFullMailbox() {
        Run run = new Run("7: has no such message").did("create", 3).filled(0, 14).due(NONE, "changedSince", 3, MIN, MIN);
        run.due(14, "changedSince", 0, 14, 0).due(NONE, "changedSince", 0, 15, 0);
        run.due(14, "changedSince", 0, 0, 13).due(NONE, "changedSince", 0, 0, 14);
        run.did("select", 0, 0);
        for (int place = 1; place <= 14; place++) {
            run.did("store", 0, place, DELETED);
        }
        run.due(1, "changedSince", 0, MIN, MIN).did("expunge", 0).due(NONE, "changedSince", 0, MIN, MIN);
    }

    private static void vanishedBetweenOneAndNext() {
        Run run = new Run("8: was once in the mailbox, and is not any more").did("create", 0).did("append", 0, 1, DELETED);
        run.did("append", 0, 1, 0).did("append", 0, 1, DELETED).due(0, "vanished", 0, 1).due(0, "vanished", 0, 3);
        run.did("select", 0, 0).did("expunge", 0);
        run.due(0, "vanished", 0, 0).due(1, "vanished", 0, 1).due(0, "vanished", 0, 2).due(1, "vanished", 0, 3);
        run.due(0, "vanished", 0, 4).due(0, "vanished", 0, -1).due(0, "vanished", 0, MIN).due(0, "vanished", 0, MAX);
        run.did("appendAndCrash", 0, 32, 100).due(0, "vanished", 0, 4).did("append", 0, 1, 0).due(0, "vanished", 0, 4);
    }

    private static void vanishedOfAnEmptiedMailbox() {
        Run run = new Run("8: all fourteen").did("create", 0).due(0, "vanished", 0, 0).due(0, "vanished", 0, 1).did("select", 0, 0);
        for (int i = 0; i < 14; i++) {
            run.did("append", 0, 1, DELETED);
        }
        run.due(0, "vanished", 0, 14).did("expunge", 0).due(0, "vanished", 0, 0);
        for (int number = 1; number <= 14; number++) {
            run.due(1, "vanished", 0, number);
        }
        run.due(0, "vanished", 0, 15);
    }

    private static void vanishedSinceItWasMade() {
        Run run = new Run("8: since it was made").filled(0, 2).did("select", 0, 0).did("store", 0, 1, DELETED).did("expunge", 0);
        run.due(1, "vanished", 0, 1).did("remove", 0).due(NONE, "vanished", 0, 1).did("create", 0);
        run.due(0, "vanished", 0, 1).due(0, "vanished", 0, 2).did("append", 0, 1, 0).due(0, "vanished", 0, 1);
    }

    private static void vanishedIsOfItsMailbox() {
        Run run = new Run("8: in the mailbox").filled(0, 2).filled(1, 3).did("select", 0, 1).did("store", 0, 2, DELETED);
        run.did("expunge", 0).due(1, "vanished", 1, 2).due(0, "vanished", 0, 2).due(0, "vanished", 0, 3);
    }

    // Promises 9 to 14

    private static void selectOfAnEmptyAndOfAFullMailbox() {
        Run run = new Run("9: how many messages the view has").did("create", 3).filled(0, 14);
        run.due(0, "select", 0, 3).view(0).due(14, "select", 2, 0).view(2, 1, 2, 3, 4, 5, 6, 7, 8, 9, 10, 11, 12, 13, 14);
        run.due(0, "length", 0).due(NONE, "length", 1);
    }

    private static void selectInPlaceOfAnother() {
        Run run = new Run("9: in place of any other").filled(0, 3).did("create", 1).filled(3, 1).did("select", 0, 0);
        run.due(1, "select", 0, 3).view(0, 1).due(NONE, "placeOf", 0, 2).due(0, "select", 0, 1).view(0).due(NONE, "placeOf", 0, 1);
        run.due(NONE, "select", 0, 2).due(0, "length", 0).due(1, "leave", 0);
        run.due(3, "select", 1, 0).due(1, "select", 1, 3).due(3, "remove", 0).view(1, 1).due(1, "remove", 3).due(NONE, "length", 1);
    }

    private static void selectAgainHasAllMessages() {
        Run run = new Run("9: its view has all messages").filled(0, 3).did("select", 0, 0).did("select", 1, 0);
        run.did("store", 1, 1, DELETED).did("expunge", 1).did("append", 0, 1, DELETED).view(0, 1, 2, 3);
        run.due(3, "select", 0, 0).view(0, 2, 3, 4).view(1, 2, 3).due(3, "status", 0, 3);
    }

    private static void leaveAnswersTheMailbox() {
        Run run = new Run("10: answers the mailbox").did("create", 0).filled(3, 14);
        run.did("select", 0, 0).did("select", 1, 3).did("select", 2, 3);
        run.due(0, "leave", 0).due(NONE, "leave", 0).due(3, "leave", 1).due(NONE, "leave", 1).due(14, "length", 2);
        run.due(NONE, "length", 1).due(NONE, "placeOf", 1, 1).due(NONE, "fetch", 1, 1, 0).due(NONE, "poll", 1);
        run.due(14, "status", 3, 3).due(3, "leave", 2).due(14, "select", 1, 3);
    }

    private static void lengthOfAnEmptyAndOfAFullView() {
        Run run = new Run("11: how many messages").did("create", 0).filled(1, 14).did("select", 0, 0).did("select", 2, 1);
        run.due(0, "length", 0).due(14, "length", 2).due(NONE, "length", 1).due(BAD, "length", 3).due(BAD, "length", -1);
    }

    private static void lengthStaysUntilTheSessionLooks() {
        Run run = new Run("11: of a session's view").filled(0, 14).did("select", 0, 0).did("select", 1, 0);
        for (int place = 1; place <= 14; place++) {
            run.did("store", 1, place, DELETED);
        }
        run.due(14, "expunge", 1).due(14, "length", 0).due(0, "length", 1).did("append", 0, 1, 0);
        run.due(14, "length", 0).due(0, "length", 1).did("poll", 0).due(1, "length", 0).due(0, "length", 1);
    }

    private static void placesOfAView() {
        Run run = new Run("12: place 1 is the first").filled(0, 2).did("create", 1).did("select", 0, 0).did("select", 2, 1);
        run.due(NONE, "numberAt", 0, 0).due(1, "numberAt", 0, 1).due(2, "numberAt", 0, 2).due(NONE, "numberAt", 0, 3);
        run.due(NONE, "numberAt", 0, MIN).due(NONE, "numberAt", 0, MAX).due(NONE, "numberAt", 0, MIN + 1);
        run.due(NONE, "numberAt", 2, 0).due(NONE, "numberAt", 2, 1).due(NONE, "numberAt", 1, 1);
    }

    private static void placesOfAFullView() {
        for (int s = 0; s < 3; s++) {
            Run run = new Run("12: fourteen places").filled(0, 14);
            run.did("select", 0, 0).did("select", 1, 0).did("select", 2, 0).due(NONE, "numberAt", s, 0).due(1, "numberAt", s, 1);
            run.due(14, "numberAt", s, 14).due(NONE, "numberAt", s, 15).due(14, "placeOf", s, 14).due(NONE, "placeOf", s, 15);
        }
    }

    private static void placesThatAViewHadOnce() {
        Run run = new Run("12, 13: there is no such place").filled(0, 3).did("select", 0, 0).did("store", 0, 3, DELETED);
        run.due(3, "numberAt", 0, 3).did("expunge", 0).due(NONE, "numberAt", 0, 3).due(NONE, "placeOf", 0, 3);
        run.due(NONE, "fetch", 0, 3, 0).due(NONE, "store", 0, 3, 2).due(NONE, "copy", 0, 3, 0).due(NONE, "search", 0, 0, MIN, 2);
        run.did("store", 0, 1, DELETED).did("expunge", 0).view(0, 2).due(1, "placeOf", 0, 2).due(NONE, "placeOf", 0, 1);
    }

    private static void placeOfAGoneNumber() {
        Run run = new Run("13: the place of a number in the view").filled(0, 3).did("select", 0, 0).did("select", 2, 0);
        run.did("store", 2, 1, DELETED).did("store", 2, 3, DELETED).did("expunge", 2);
        run.due(1, "placeOf", 0, 1).due(2, "placeOf", 0, 2).due(3, "placeOf", 0, 3).view(0, 1, 2, 3);
        run.due(NONE, "placeOf", 2, 1).due(1, "placeOf", 2, 2).due(NONE, "placeOf", 2, 3);
    }

    private static void placeOfANumberOutsideTheView() {
        Run run = new Run("13: the view does not have it").filled(0, 2).did("create", 1).did("select", 0, 0).did("select", 1, 1);
        run.did("append", 0, 1, 0).due(NONE, "placeOf", 0, 3).due(NONE, "placeOf", 0, 0).due(NONE, "placeOf", 0, -1);
        run.due(NONE, "placeOf", 0, MIN).due(NONE, "placeOf", 0, MAX).due(NONE, "placeOf", 1, 1).due(NONE, "placeOf", 1, 0);
        run.due(NONE, "placeOf", 2, 1).due(NONE, "placeOf", 2, 0).did("poll", 0).due(3, "placeOf", 0, 3);
    }

    private static void fetchAtTheEdges() {
        Run run = new Run("14: what 0 flags, 1 size, 2 change").did("create", 0).did("append", 0, 1000, 31);
        run.did("append", 0, 1, 0).did("select", 1, 0);
        run.due(BAD, "fetch", 1, 1, -1).due(31, "fetch", 1, 1, 0).due(1000, "fetch", 1, 1, 1).due(2, "fetch", 1, 1, 2);
        run.due(BAD, "fetch", 1, 1, 3).due(0, "fetch", 1, 2, 0).due(1, "fetch", 1, 2, 1).due(3, "fetch", 1, 2, 2);
        run.due(NONE, "fetch", 1, 0, 0).due(NONE, "fetch", 1, 3, 0).due(NONE, "fetch", 1, MIN, 2).due(NONE, "fetch", 1, MAX, 2);
    }

    private static void fetchOfGoneMessages() {
        Run run = new Run("14: it is gone").filled(0, 3).did("select", 0, 0).did("select", 1, 0);
        run.did("store", 1, 1, DELETED).did("store", 1, 3, DELETED).due(1, "fetch", 0, 1, 0).due(2, "expunge", 1);
        run.did("append", 0, 40, 0).due(GONE, "fetch", 0, 1, 0).due(20, "fetch", 0, 2, 1).due(GONE, "fetch", 0, 3, 2);
        run.due(BAD, "fetch", 0, 1, 3).due(NONE, "fetch", 0, 4, 0).due(20, "fetch", 1, 1, 1);
        run.did("store", 0, 2, DELETED).did("expunge", 1).did("append", 0, 50, 0).due(GONE, "fetch", 0, 2, 0);
    }

    // Promises 15 to 18

    private static void storeByEveryCode() {
        for (int code = 0; code < 96; code++) {
            for (int old = 0; old < 32; old++) {
                int given = code % 32;
                int then = code < GETS ? given : code < LOSES ? old | given : old & 31 - given;
                int change = then == old ? 2 : 3;
                Run run = new Run("15: way 0, 1, 2; if they are other ones then, this is a change");
                run.did("create", 0).did("append", 0, 5, old).did("select", 0, 0).due(then, "store", 0, 1, code);
                run.due(then, "fetch", 0, 1, 0).due(change, "fetch", 0, 1, 2).due(change, "status", 0, 2);
            }
        }
    }

    private static void storeOfTheSameFlagsIsNoChange() {
        Run run = new Run("15: if they are other ones").did("create", 0).did("append", 0, 5, 0).did("append", 0, 5, 31);
        run.did("select", 0, 0);
        run.due(0, "store", 0, 1, 0).due(0, "store", 0, 1, GETS).due(0, "store", 0, 1, LOSES + 31).due(0, "store", 0, 1, LOSES);
        run.due(31, "store", 0, 2, 31).due(31, "store", 0, 2, GETS + 31).due(31, "store", 0, 2, GETS).due(31, "store", 0, 2, LOSES);
        run.due(3, "status", 0, 2).due(2, "fetch", 0, 1, 2).due(3, "fetch", 0, 2, 2).due(NONE, "changedSince", 0, 3, 0);
    }

    private static void storeChangesJustOneMessage() {
        Run run = new Run("15: the message at a place").filled(0, 3).filled(1, 3).did("select", 0, 0).did("select", 1, 0);
        run.did("store", 1, 1, DELETED).did("expunge", 1).due(2, "store", 1, 1, 2).due(4, "store", 0, 3, 4);
        run.due(GONE, "store", 0, 1, 8).due(2, "fetch", 0, 2, 0).due(4, "fetch", 1, 2, 0).due(8, "status", 0, 2);
        run.due(7, "fetch", 0, 2, 2).due(8, "fetch", 0, 3, 2).due(20, "fetch", 0, 2, 1).due(3, "counting", 1, 32 * 31);
        run.due(4, "status", 1, 2).due(4, "status", 0, 1).due(2, "status", 0, 3);
    }

    private static void expungeOfNone() {
        Run empty = new Run("16: none, of an empty mailbox").did("create", 0).did("select", 0, 0).due(0, "expunge", 0);
        empty.due(1, "status", 0, 2).due(1, "status", 0, 1).view(0);
        Run none = new Run("16: none has flag 0").filled(0, 14).did("select", 0, 0).due(0, "expunge", 0);
        none.due(15, "status", 0, 2).due(14, "status", 0, 3).due(14, "length", 0);
    }

    private static void expungeOfAllFourteen() {
        Run run = new Run("16: all fourteen").did("create", 0);
        for (int i = 0; i < 14; i++) {
            run.did("append", 0, 1, 2 * i % 32 + 1);
        }
        run.did("select", 0, 0).did("select", 2, 0).due(14, "expunge", 0).due(29, "status", 0, 2).due(15, "status", 0, 1);
        run.due(0, "status", 0, 3).view(0).due(14, "length", 2).due(GONE, "fetch", 2, 1, 0).due(GONE, "fetch", 2, 14, 0);
        run.due(0, "expunge", 0).due(29, "status", 0, 2).due(0, "expunge", 2).view(2).due(29, "status", 0, 2);
    }

    private static void expungeOutsideTheView() {
        Run run = new Run("16: all messages of the selected mailbox").did("create", 0).did("select", 0, 0).filled(1, 1);
        run.did("append", 0, 1, DELETED).did("append", 0, 1, 0).did("append", 0, 1, 31).did("append", 1, 1, DELETED);
        run.due(2, "expunge", 0).view(0).due(1, "status", 0, 3).due(6, "status", 0, 2).due(2, "status", 1, 3);
        run.due(1, "poll", 0).view(0, 2).due(3, "status", 1, 2);
    }

    private static void expungeLooksAtFlagZeroAlone() {
        Run run = new Run("16: with flag 0").did("create", 0);
        for (int flags : new int[] {0, 1, 2, 30, 31, 16, 17}) {
            run.did("append", 0, 100 + flags, flags);
        }
        run.did("select", 0, 0).due(3, "expunge", 0).view(0, 1, 3, 4, 6).due(11, "status", 0, 2);
        run.due(102, "fetch", 0, 2, 1).due(30, "fetch", 0, 3, 0).due(7, "fetch", 0, 4, 2).due(116, "fetch", 0, 4, 1);
    }

    private static void expungeDropsWhatOthersTookOut() {
        Run run = new Run("16: all that are gone leave the view").filled(0, 4);
        run.did("select", 0, 0).did("select", 1, 0).did("select", 2, 0);
        run.did("store", 0, 1, DELETED).due(1, "expunge", 1).did("store", 0, 4, DELETED).due(1, "expunge", 0).view(0, 2, 3);
        run.view(1, 2, 3, 4).view(2, 1, 2, 3, 4).did("append", 0, 1, 0).due(0, "expunge", 2).view(2, 2, 3);
        run.due(10, "status", 0, 2);
    }

    private static void expungeTakesOutFirstAndLast() {
        Run run = new Run("16: the first and the last").filled(0, 14).did("select", 0, 0);
        run.did("store", 0, 1, DELETED).did("store", 0, 14, DELETED).due(2, "expunge", 0);
        run.view(0, 2, 3, 4, 5, 6, 7, 8, 9, 10, 11, 12, 13).due(20, "fetch", 0, 1, 1).due(130, "fetch", 0, 12, 1);
        run.due(15, "append", 0, 1, 0).due(16, "append", 0, 1, 0).due(FULL, "append", 0, 1, 0);
        run.due(2, "poll", 0).due(16, "numberAt", 0, 14);
    }

    private static void pollOfNothingNew() {
        new Run("17: none, of an empty mailbox").did("create", 0).did("select", 0, 0).due(0, "poll", 0).view(0);
        Run run = new Run("17: none").filled(0, 14).did("select", 0, 0).did("store", 0, 1, DELETED);
        run.due(0, "poll", 0).due(14, "length", 0).due(16, "status", 0, 2).due(14, "status", 0, 3).due(1, "fetch", 0, 1, 0);
    }

    private static void pollOfWhatLeft() {
        Run run = new Run("17: all that are gone leave").filled(0, 14).did("select", 0, 0).did("select", 1, 0);
        run.did("store", 0, 1, DELETED).did("store", 0, 14, DELETED).did("expunge", 1).due(2, "poll", 0);
        run.view(0, 2, 3, 4, 5, 6, 7, 8, 9, 10, 11, 12, 13).due(0, "poll", 0).due(0, "poll", 1);
    }

    private static void pollOfWhatCame() {
        Run run = new Run("17: messages that are not in the view come").did("create", 0).did("select", 0, 0).did("select", 1, 0);
        for (int i = 0; i < 14; i++) {
            run.did("append", 0, 1, 0);
        }
        run.view(0).due(14, "poll", 0).due(14, "length", 0).due(14, "numberAt", 0, 14).due(0, "length", 1).due(0, "poll", 0);
    }

    private static void pollOfWhatCameAndWent() {
        Run run = new Run("17: how many left and came").filled(0, 2).did("select", 0, 0).did("select", 1, 0);
        run.did("append", 0, 1, DELETED).did("append", 0, 1, 0).did("store", 0, 1, DELETED).due(2, "expunge", 1);
        run.view(0, 1, 2).view(1, 2).due(2, "poll", 0).view(0, 2, 4).due(1, "poll", 1).view(1, 2, 4);
    }

    private static void pollOfFourteenAndFourteen() {
        Run run = new Run("17: fourteen left and fourteen came").did("create", 3);
        for (int i = 0; i < 14; i++) {
            run.did("append", 3, 1, DELETED);
        }
        run.did("select", 2, 3).did("select", 1, 3).due(14, "expunge", 1);
        for (int i = 15; i <= 28; i++) {
            run.due(i, "append", 3, i, 0);
        }
        run.due(14, "length", 2).due(GONE, "fetch", 2, 14, 0).due(28, "poll", 2);
        run.view(2, 15, 16, 17, 18, 19, 20, 21, 22, 23, 24, 25, 26, 27, 28).due(28, "fetch", 2, 14, 1).due(14, "poll", 1);
    }

    private static void copyUntilFourteen() {
        Run run = new Run("18: it has fourteen messages").filled(0, 2).filled(3, 12).did("select", 1, 0);
        run.due(13, "copy", 1, 1, 3).due(14, "copy", 1, 2, 3).due(FULL, "copy", 1, 1, 3);
        run.due(15, "status", 3, 1).due(15, "status", 3, 2);
        for (int number = 3; number <= 14; number++) {
            run.due(number, "copy", 1, 2, 0);
        }
        run.due(FULL, "copy", 1, 2, 0).due(2, "length", 1).due(12, "poll", 1).due(20, "fetch", 1, 14, 1).due(15, "fetch", 1, 14, 2);
    }

    private static void copyFromAFullMailbox() {
        Run run = new Run("18: from a full mailbox").filled(0, 14).did("create", 1).did("select", 0, 0).due(FULL, "copy", 0, 14, 0);
        run.due(1, "copy", 0, 14, 1).due(2, "copy", 0, 1, 1).due(NONE, "copy", 0, 15, 1).due(NONE, "copy", 0, 0, 1);
        run.did("select", 1, 1).due(140, "fetch", 1, 1, 1).due(10, "fetch", 1, 2, 1);
        run.due(14, "status", 0, 3).due(15, "status", 0, 2);
    }

    private static void copyOfTheGreatestAndTheLeast() {
        Run run = new Run("18: with the size and flags").did("create", 0).did("create", 3).did("append", 0, 1000, 31);
        run.did("append", 0, 1, 0).did("select", 0, 0).due(1, "copy", 0, 1, 3).due(2, "copy", 0, 2, 3).did("select", 1, 3);
        run.due(1000, "fetch", 1, 1, 1).due(31, "fetch", 1, 1, 0).due(2, "fetch", 1, 1, 2);
        run.due(1, "fetch", 1, 2, 1).due(0, "fetch", 1, 2, 0).due(3, "fetch", 1, 2, 2);
    }

    private static void copyIsAMessageOfItsOwn() {
        Run run = new Run("18: which may be the selected one").filled(0, 1).did("select", 0, 0).did("store", 0, 1, 6);
        run.due(2, "copy", 0, 1, 0).due(4, "status", 0, 2).due(3, "fetch", 0, 1, 2);
        run.did("store", 0, 1, DELETED).due(1, "expunge", 0).view(0).due(1, "poll", 0).view(0, 2).due(6, "fetch", 0, 1, 0).due(10, "fetch", 0, 1, 1).due(4, "fetch", 0, 1, 2);
        run.did("select", 1, 0).did("store", 0, 1, DELETED).did("expunge", 0).due(GONE, "copy", 1, 1, 0);
    }

    // Promise 19

    private static void searchBySize() {
        Run run = new Run("19: of at least this size").did("create", 0).did("append", 0, 1, 0).did("append", 0, 1000, 0);
        run.did("select", 0, 0).due(1, "search", 0, 0, 0, 0).due(1, "search", 0, 0, 1, 0).due(2, "search", 0, 0, 2, 0);
        run.due(2, "search", 0, 0, 1000, 0).due(NONE, "search", 0, 0, 1001, 0).due(1, "search", 0, 0, -1, 0);
        run.due(1, "search", 0, 0, MIN, 0).due(NONE, "search", 0, 0, MAX, 0).due(2, "search", 0, 0, MIN, 1);
    }

    private static void searchAfterAPlace() {
        Run run = new Run("19: the least place greater than after").filled(0, 3).did("select", 0, 0);
        run.due(1, "search", 0, 0, 0, MIN).due(1, "search", 0, 0, 0, -1).due(1, "search", 0, 0, 0, 0).due(2, "search", 0, 0, 0, 1);
        run.due(3, "search", 0, 0, 0, 2).due(NONE, "search", 0, 0, 0, 3).due(NONE, "search", 0, 0, 0, 4);
        run.due(NONE, "search", 0, 0, 0, MAX - 1).due(NONE, "search", 0, 0, 0, MAX).due(NONE, "search", 0, 0, MIN, MAX);
        run.did("store", 0, 1, DELETED).did("expunge", 0).due(1, "search", 0, 0, 0, 0).due(2, "search", 0, 0, 30, 0);
    }

    private static void searchPassesOverGoneMessages() {
        Run run = new Run("19: whose message is not gone").filled(0, 3).did("create", 1).did("select", 0, 0).did("select", 1, 0);
        run.did("select", 2, 1).did("store", 1, 1, DELETED).did("store", 1, 3, DELETED).did("expunge", 1);
        run.did("append", 0, 1000, 31);
        run.due(2, "search", 0, 0, 0, 0).due(NONE, "search", 0, 0, 0, 2).due(NONE, "search", 0, 1023, 0, 0);
        run.due(NONE, "search", 0, 0, 21, 0).due(1, "search", 1, 0, 0, 0).due(NONE, "search", 2, 0, MIN, MIN);
        run.did("poll", 0).due(2, "search", 0, 1023, 1000, 0).due(1, "search", 0, 0, 0, 0);
    }

    private static void searchByEveryCode() {
        for (int code = 0; code < 1024; code++) {
            Run run = withAllFlags("19: of the flags in mask just those in flags");
            for (int m = 0; m < 3; m++) {
                run.did("select", m, m).due(firstFit(m, code), "search", m, code, 1, 0);
            }
        }
    }

    private static void searchInAFullView() {
        Run run = new Run("19: the last place of fourteen").filled(0, 14).did("select", 2, 0).did("store", 2, 14, 31);
        run.due(14, "search", 2, 1023, 140, 0).due(14, "search", 2, 0, 140, 13).due(NONE, "search", 2, 0, 141, 0);
        run.due(NONE, "search", 2, 0, 0, 14).due(14, "search", 2, 1023, 0, MIN).due(BAD, "search", 2, 1024, 0, 0);
        run.due(BAD, "search", 2, -1, 0, 0).due(1, "search", 2, 0, MIN, MIN);
    }

    // Promises 20 to 23

    private static void appendAndCrashByTheEdgesOfCode() {
        for (int code : new int[] {32, 63, 64, 32 * 1000, 32 * 1000 + 31}) {
            Run run = new Run("20: code is 32 * size + flags").filled(0, 1).did("select", 0, 0);
            run.due(0, "appendAndCrash", 0, code, 1).due(NONE, "length", 0).due(2, "status", 0, 1).due(2, "status", 0, 2).due(1, "status", 0, 3);
        }
        for (int code : new int[] {MIN, -1, 0, 31, 32 * 1001, MAX}) {
            Run run = new Run("20: size not 1 .. 1000, code below 0").filled(0, 1).did("select", 0, 0);
            run.due(BAD, "appendAndCrash", 0, code, 1).view(0, 1);
        }
    }

    private static void appendAndCrashTakesAnySteps() {
        String want = new Run("20: steps shows in no answer").filled(0, 3).everything();
        for (int steps : new int[] {MIN, MIN + 1, -1, 0, 1, 2, 3, 4, 5, 6, 7, 8, 14, 100, MAX - 1, MAX}) {
            Run run = new Run("20: steps (any int)").filled(0, 3).did("select", 0, 0);
            run.due(0, "appendAndCrash", 0, 32 * 9 + 1, steps);
            Due.same("20: everything after steps " + steps, run.everything(), want);
        }
    }

    private static void appendAndCrashBelowFourteen() {
        Run empty = new Run("20: of an empty mailbox").did("create", 3).did("select", 1, 3).due(0, "appendAndCrash", 3, 32, 0);
        empty.due(NONE, "length", 1).due(0, "status", 3, 3).due(1, "append", 3, 1, 0);
        Run run = new Run("20: the same answers below 0").filled(0, 13).did("select", 0, 0).due(0, "appendAndCrash", 0, 32, 99);
        run.due(NONE, "length", 0).due(13, "status", 0, 3).due(14, "append", 0, 1, 0).did("select", 0, 0);
        run.due(FULL, "appendAndCrash", 0, 32, 99).due(14, "length", 0).due(BAD, "appendAndCrash", 0, 31, 0).due(14, "length", 0);
        run.due(NONE, "appendAndCrash", 1, 32, 0).due(14, "length", 0);
    }

    /** Two mailboxes, one of them with a message gone from it, and all three sessions looking. */
    private static Run watched(String sentence) {
        Run run = new Run(sentence).filled(0, 3).filled(2, 14).did("create", 3).did("remove", 3);
        run.did("select", 0, 0).did("select", 1, 0).did("store", 0, 2, 7).did("expunge", 1).did("append", 0, 5, DELETED);
        return run.did("select", 2, 2);
    }

    private static void appendAndCrashLeavesMailboxesAsBefore() {
        String want = watched("everybody leaves").did("leave", 0).did("leave", 1).did("leave", 2).everything();
        Run run = watched("20: it does not come, and there is a crash").due(0, "appendAndCrash", 0, 32 * 5 + 1, 2);
        Due.same("20: everything after appendAndCrash", run.everything(), want);
        watched("20: nothing is selected any more").did("appendAndCrash", 0, 32, 0).due(0, "crash");
    }

    private static void crashCountsSessions() {
        Run run = new Run("21: how many sessions had something selected").did("create", 0).filled(3, 14).due(0, "crash");
        run.did("select", 2, 0).due(1, "crash").due(0, "crash").did("select", 0, 0).did("select", 1, 3).due(2, "crash");
        run.did("select", 0, 0).did("select", 1, 3).did("select", 2, 0).due(3, "crash").due(0, "crash");
        run.did("select", 0, 3).did("select", 0, 0).due(1, "crash").did("select", 0, 3).did("remove", 3).due(0, "crash");
    }

    private static void crashLeavesMailboxesAsBefore() {
        String want = watched("everybody leaves").did("leave", 0).did("leave", 1).did("leave", 2).everything();
        Due.same("21: everything after a crash", watched("21: mailboxes are as before").due(3, "crash").everything(), want);
        String none = new Run("a new object").everything();
        Due.same("21: a new object after a crash", new Run("21: without mailboxes").due(0, "crash").everything(), none);
    }

    private static void idleWhateverTheArguments() {
        String want = watched("without idle").everything();
        for (int m : new int[] {MIN, -1, 0, 1, 2, 3, 4, MAX}) {
            for (int steps : new int[] {MIN, -1, 0, 1, 2, 14, 1000, MAX}) {
                Due.same("22: everything after idle", watched("22: changes no answer").due(0, "idle", m, steps).everything(), want);
            }
        }
    }

    private static void faultsAreAlwaysZero() {
        Run run = new Run("23: always 0").due(0, "faults").filled(0, 14).due(0, "faults").did("select", 0, 0).did("select", 1, 0);
        for (int place = 1; place <= 14; place++) {
            run.did("store", 0, place, 31).due(0, "faults");
        }
        run.did("expunge", 0).due(0, "faults").did("append", 0, 1000, 31).due(0, "faults").did("poll", 1).due(0, "faults");
        run.did("copy", 1, 1, 0).due(0, "faults").due(EXISTS, "create", 0).due(0, "faults").did("idle", 0, MAX).due(0, "faults");
        run.did("appendAndCrash", 0, 32, 1).due(0, "faults").did("select", 2, 0).did("remove", 0).due(0, "faults");
        run.did("create", 0).due(0, "faults").did("select", 0, 0).did("crash").due(0, "faults");
        run.did("select", 0, 0).did("leave", 0).due(0, "faults");
    }
}
