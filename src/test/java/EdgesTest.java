/** A method for each sentence of the promises that names an edge; due.in(..) says the promise and the sentence. */
public final class EdgesTest extends TestBase {
    public static void main(String[] args) {
        newObjectAndAppend();
        selectAndClose();
        checkAndFetch();
        storeAndExpunge();
        copies();
        searches();
        syncAndCrash();
        looks();
        longestUse();
        due.end();
    }

    private static void newObjectAndAppend() {
        newObject();
        objectsShareNothing();
        appendRanges();
        appendAnswersTheUid();
        appendFull();
    }

    private static void selectAndClose() {
        selectRanges();
        selectInPlaceOfAnyBefore();
        selectSeesAllMessages();
        selectKnowsFlagsAsTheyAre();
        selectToldNothing();
        selectAgainReadOnlyOrNot();
        closeTwice();
        closeToReadOnly();
        closeRemovesInOrder();
        closeCountsNoneAndAll();
        closeLooksAtTheMailbox();
    }

    private static void checkAndFetch() {
        checkCountsNotices();
        fetchRanges();
        fetchAsTheMailboxHasThem();
        fetchGone();
        fetchDoesNotUpdate();
    }

    private static void storeAndExpunge() {
        storeNumberModeAndFlags();
        storeOrderOfRefusals();
        storeMode0();
        storeMode1();
        storeMode2();
        storeSetsWhatItHasNotWhatIsKnown();
        storeUpdatesWithoutRemovals();
        expungeReadOnly();
        expungeNoneAndAll();
        expungeTheMailboxNotTheView();
    }

    private static void copies() {
        copyRanges();
        copyOrderOfRefusals();
        copyFlagsAndSize();
        copyToThisOneToo();
        copyFromReadOnly();
        copyFullDoesNotUpdate();
        copyUpdatesTheSessionAlone();
    }

    private static void searches() {
        criterionOps();
        criterionAnyAAndB();
        criterionFull();
        searchRefusedKeepsTheRow();
        searchWrongEmptiesTheRow();
        searchLeavesOutTheGone();
        searchTakesFlagsOfTheMailbox();
        searchThenUpdates();
        foundRange();
        foundOfTheLastThatAnswered();
    }

    private static void syncAndCrash() {
        syncCounts();
        crashLeavesNoSessionAMailbox();
        crashWithNothingToTakeBack();
        crashTakesBackAdded();
        crashTakesBackRemoved();
        crashTakesBackFlags();
        crashTakesBackAddedAndRemoved();
        crashFillsAFullMailboxAgain();
        crashValidityGrowsOnceInEachMailbox();
        crashNextUidBeforeTheFirst();
        crashNextUidAboveRemovedOnes();
        crashLeavesTheDurable();
        crashLeavesCriterionAndFound();
    }

    private static void looks() {
        messageRanges();
        seenRanges();
        noticeRanges();
        mailboxRanges();
        mailboxCountsSessions();
        countRanges();
    }

    private static void longestUse() {
        manyUids();
        manyValidities();
        manyChanges();
        noCallThrows();
    }

    private static void newObject() {
        due.in("1: makes an object in the state that the terms give");
        MailViews x = new MailViews();
        for (int m = 0; m < 3; m++) {
            dueMessages(x, m);
            due.is("next UID", x.mailbox(m, 1), 1);
            due.is("validity", x.mailbox(m, 2), 1);
            due.is("sessions", x.mailbox(m, 3), 0);
        }
        for (int what = 0; what < 4; what++) {
            due.is("count(" + what + ")", x.count(what), 0);
        }
        for (int s = 0; s < 4; s++) {
            due.is("close(" + s + ")", x.close(s), REFUSED);
        }
        due.is("found(0)", x.found(0), REFUSED);
        due.is("sync()", x.sync(), 0);
        due.is("crash()", x.crash(), 0);
        due.is("validity after the crash", x.mailbox(0, 2), 1);
    }

    private static void objectsShareNothing() {
        due.in("1: makes an object: another one is not touched");
        MailViews x = withMessages(0);
        x.select(0, 0, false);
        x.criterion(ALL, 0, 0);
        MailViews y = new MailViews();
        due.is("messages", y.mailbox(0, 0), 0);
        due.is("sessions", y.mailbox(0, 3), 0);
        due.is("tokens", y.count(2), 0);
        y.crash();
        due.is("messages", x.mailbox(0, 0), 1);
        dueSearch(x, 0, 1);
    }

    private static void appendRanges() {
        due.in("2: flags 0 .. 31 and size 1 .. 999 to the mailbox 0 .. 2");
        MailViews x = new MailViews();
        due.is("the least", x.append(0, 0, 1), 1);
        due.is("the most", x.append(2, 31, 999), 1);
        for (int m : NO_MAILBOXES) {
            due.is("mailbox " + m, x.append(m, 0, 1), REFUSED);
        }
        for (int flags : NO_FLAGS) {
            due.is("flags " + flags, x.append(0, flags, 1), REFUSED);
        }
        for (int size : NO_SIZES) {
            due.is("size " + size, x.append(0, 0, size), REFUSED);
        }
        dueChanges(x, 2, 0);
    }

    private static void appendAnswersTheUid() {
        due.in("2: its UID");
        MailViews x = withMessages(DELETED, DELETED);
        x.select(0, 0, false);
        x.close(0);
        due.is("of a mailbox that is empty again", x.append(0, 0, 1), 3);
        due.is("of another", x.append(1, 0, 1), 1);
        due.is("of the first again", x.append(0, 0, 1), 4);
    }

    private static void appendFull() {
        due.in("2: FULL");
        MailViews x = new MailViews();
        appendMany(x, 1, 0, 11);
        due.is("the twelfth", x.append(1, 31, 999), 12);
        due.is("the thirteenth", x.append(1, 31, 999), FULL);
        due.is("another mailbox", x.append(0, 31, 999), 1);
        due.is("out of range is tested first", x.append(1, 32, 999), REFUSED);
        due.is("out of range is tested first", x.append(1, 31, 1000), REFUSED);
        dueChanges(x, 13, 8);
    }

    private static void selectRanges() {
        due.in("3: The session 0 .. 3 has the mailbox");
        MailViews x = withMessages(0);
        for (int s : NO_SESSIONS) {
            due.is("session " + s, x.select(s, 0, false), REFUSED);
        }
        for (int m : NO_MAILBOXES) {
            due.is("mailbox " + m, x.select(0, m, false), REFUSED);
        }
        due.is("no session has it", x.mailbox(0, 3), 0);
        due.is("the first", x.select(0, 0, true), 1);
        due.is("the last", x.select(3, 2, false), 0);
        for (int m : NO_MAILBOXES) {
            due.is("mailbox " + m, x.select(0, m, false), REFUSED);
        }
        due.is("it has the first still", x.mailbox(0, 3), 1);
        due.is("to read only still", x.store(0, 1, 0, 0), READ_ONLY);
    }

    private static void selectInPlaceOfAnyBefore() {
        due.in("3: in place of any before");
        MailViews x = withMessages(DELETED, 0);
        x.append(1, MARKED, 5);
        x.select(0, 0, false);
        due.is("another mailbox", x.select(0, 1, false), 1);
        due.is("sessions of the old one", x.mailbox(0, 3), 0);
        due.is("sessions of the new one", x.mailbox(1, 3), 1);
        dueView(x, 0, 1);
        dueKnown(x, 0, MARKED);
        due.is("nothing is removed of the old one", x.mailbox(0, 0), 2);
        dueChanges(x, 3, 0);
    }

    private static void selectSeesAllMessages() {
        due.in("3: its view is all messages; how many there are");
        MailViews x = new MailViews();
        due.is("none", x.select(0, 0, false), 0);
        dueView(x, 0);
        appendMany(x, 0, DELETED, 1);
        appendMany(x, 0, 0, 11);
        due.is("twelve", x.select(0, 0, false), 12);
        dueView(x, 0, 1, 2, 3, 4, 5, 6, 7, 8, 9, 10, 11, 12);
        x.select(1, 0, false);
        x.expunge(1);
        dueView(x, 0, 1, 2, 3, 4, 5, 6, 7, 8, 9, 10, 11, 12);
        due.is("again", x.select(0, 0, false), 11);
        dueView(x, 0, 2, 3, 4, 5, 6, 7, 8, 9, 10, 11, 12);
    }

    private static void selectKnowsFlagsAsTheyAre() {
        due.in("3: known with their flags as they are");
        MailViews x = withMessages(0, SEEN);
        x.select(0, 0, false);
        x.select(1, 0, false);
        x.store(1, 1, 0, 31);
        dueKnown(x, 0, 0, SEEN);
        x.select(0, 0, false);
        dueKnown(x, 0, 31, SEEN);
        due.is("nothing is left to tell", x.check(0), 0);
    }

    private static void selectToldNothing() {
        due.in("3: it was told nothing");
        MailViews x = withMessages(0);
        x.select(0, 0, false);
        x.append(0, 0, 1);
        x.check(0);
        dueNotices(x, 0, EXISTS, 2);
        x.select(0, 0, false);
        dueNotices(x, 0);
        x.append(0, 0, 1);
        x.select(0, 0, false);
        due.is("nothing is left to tell", x.check(0), 0);
    }

    private static void selectAgainReadOnlyOrNot() {
        due.in("3: to read only or not");
        MailViews x = withMessages(0);
        x.select(0, 0, true);
        due.is("to read only", x.expunge(0), READ_ONLY);
        x.select(0, 0, false);
        due.is("not", x.expunge(0), 0);
        x.select(0, 0, true);
        due.is("to read only again", x.expunge(0), READ_ONLY);
        x.close(0);
        x.select(0, 0, false);
        due.is("not, after close", x.expunge(0), 0);
    }

    private static void closeTwice() {
        due.in("4: The session has no mailbox any more");
        MailViews x = withMessages(0);
        x.select(0, 0, false);
        x.select(1, 0, false);
        x.append(0, 0, 1);
        x.check(0);
        due.is("close", x.close(0), 0);
        due.is("sessions", x.mailbox(0, 3), 1);
        due.is("again", x.close(0), REFUSED);
        due.is("seen", x.seen(0, 1, 0), REFUSED);
        due.is("notice", x.notice(0, 0, 0), REFUSED);
        due.is("fetch", x.fetch(0, 1), REFUSED);
        due.is("check", x.check(0), REFUSED);
        due.is("the other has it", x.check(1), 1);
        for (int s : NO_SESSIONS) {
            due.is("close(" + s + ")", x.close(s), REFUSED);
        }
    }

    private static void closeToReadOnly() {
        due.in("4: If it was not to read only");
        MailViews x = withMessages(DELETED, 31);
        x.select(0, 0, true);
        due.is("close", x.close(0), 0);
        dueMessages(x, 0, 1, 2);
        dueChanges(x, 2, 0);
        due.is("sessions", x.mailbox(0, 3), 0);
    }

    private static void closeRemovesInOrder() {
        due.in("4: all messages of the mailbox with the flag DELETED are removed, in order");
        MailViews x = withMessages(DELETED, 0, DELETED, DELETED);
        x.append(1, 0, 1);
        x.append(1, 0, 1);
        dueChanges(x, 6, 0);
        x.select(0, 0, false);
        due.is("close", x.close(0), 3);
        dueMessages(x, 0, 2);
        dueChanges(x, 9, 8);
        due.is("crash", x.crash(), 8);
        dueMessages(x, 0, 2, 4);
    }

    private static void closeCountsNoneAndAll() {
        due.in("4: How many were removed");
        MailViews x = new MailViews();
        x.select(0, 0, false);
        due.is("of an empty mailbox", x.close(0), 0);
        appendMany(x, 0, 31 - DELETED, 1);
        x.select(0, 0, false);
        due.is("none is DELETED", x.close(0), 0);
        appendMany(x, 1, DELETED, 12);
        x.select(0, 1, false);
        due.is("all of twelve", x.close(0), 12);
        dueMessages(x, 1);
        dueMessages(x, 0, 1);
    }

    private static void closeLooksAtTheMailbox() {
        due.in("4: all messages of the mailbox, also those that are not in the view");
        MailViews x = new MailViews();
        x.select(0, 0, false);
        x.append(0, DELETED, 1);
        due.is("close", x.close(0), 1);
        dueMessages(x, 0);
    }

    private static void checkCountsNotices() {
        due.in("5: how many notices it is told");
        MailViews x = withMessages(0, DELETED, 0);
        x.select(0, 0, true);
        x.select(1, 0, false);
        due.is("none", x.check(0), 0);
        x.expunge(1);
        due.is("one", x.check(0), 1);
        x.append(0, DELETED, 1);
        x.append(0, 0, 1);
        x.store(1, 1, 0, SEEN);
        due.is("two", x.check(0), 2);
        x.expunge(1);
        x.store(1, 1, 0, 0);
        x.store(1, 2, 0, DRAFT);
        x.append(0, 0, 1);
        due.is("one gone, one new, two with other flags", x.check(0), 4);
        dueNotices(x, 0, EXPUNGED, 3, EXISTS, 4, FLAGGED, 1, FLAGGED, 2);
        for (int s : NO_SESSIONS) {
            due.is("check(" + s + ")", x.check(s), REFUSED);
        }
        due.is("without a mailbox", x.check(2), REFUSED);
    }

    private static void fetchRanges() {
        due.in("6: the sequence number 1 .. length of the view (else REFUSED)");
        MailViews x = withMessages(SEEN, 31);
        x.select(0, 0, true);
        due.is("the first", x.fetch(0, 1), SEEN);
        due.is("the last", x.fetch(0, 2), 31);
        x.append(0, 0, 1);
        for (int number : new int[] {0, -1, 3, LEAST, MOST}) {
            due.is("number " + number, x.fetch(0, number), REFUSED);
        }
        for (int s : NO_SESSIONS) {
            due.is("session " + s, x.fetch(s, 1), REFUSED);
        }
        due.is("without a mailbox", x.fetch(1, 1), REFUSED);
    }

    private static void fetchAsTheMailboxHasThem() {
        due.in("6: as the mailbox has them; they are known then");
        MailViews x = withMessages(0, 0);
        x.select(0, 0, true);
        x.select(1, 0, false);
        x.store(1, 1, 0, 31);
        x.store(1, 2, 0, SEEN);
        due.is("fetch", x.fetch(0, 1), 31);
        dueKnown(x, 0, 31, 0);
        due.is("only the other is told", x.check(0), 1);
        dueNotices(x, 0, FLAGGED, 2);
        dueChanges(x, 4, 0);
    }

    private static void fetchGone() {
        due.in("6: GONE");
        MailViews x = withMessages(DELETED, 0);
        x.select(0, 0, true);
        x.select(1, 0, false);
        x.expunge(1);
        due.is("gone", x.fetch(0, 1), GONE);
        due.is("again", x.fetch(0, 1), GONE);
        due.is("the next keeps its number", x.fetch(0, 2), 0);
        dueKnown(x, 0, DELETED, 0);
    }

    private static void fetchDoesNotUpdate() {
        due.in("6: The session is not updated");
        MailViews x = withMessages(0, DELETED);
        x.select(0, 0, true);
        x.select(1, 0, false);
        x.append(0, 0, 1);
        x.check(0);
        x.expunge(1);
        x.append(0, 0, 1);
        due.is("fetch", x.fetch(0, 1), 0);
        dueNotices(x, 0, EXISTS, 3);
        dueView(x, 0, 1, 2, 3);
        due.is("all is left to tell", x.check(0), 2);
    }

    private static void storeNumberModeAndFlags() {
        due.in("7: the sequence number (else REFUSED), the modes 0, 1, 2, flags 0 .. 31");
        MailViews x = withMessages(0, SEEN);
        x.select(0, 0, false);
        x.append(0, 0, 1);
        for (int number : new int[] {0, -1, 3, LEAST, MOST}) {
            due.is("number " + number, x.store(0, number, 0, 0), REFUSED);
        }
        for (int mode : new int[] {-1, 3, LEAST, MOST}) {
            due.is("mode " + mode, x.store(0, 1, mode, 0), REFUSED);
        }
        for (int mode = 0; mode <= 2; mode++) {
            for (int flags : NO_FLAGS) {
                due.is("mode " + mode + " with flags " + flags, x.store(0, 1, mode, flags), REFUSED);
            }
        }
        for (int s : NO_SESSIONS) {
            due.is("session " + s, x.store(s, 1, 0, 0), REFUSED);
        }
        due.is("without a mailbox", x.store(1, 1, 0, 0), REFUSED);
        dueChanges(x, 3, 0);
        dueView(x, 0, 1, 2);
        due.is("the last of the view", x.store(0, 2, 0, 0), 0);
    }

    private static void storeOrderOfRefusals() {
        due.in("7: READ_ONLY; GONE (in this order), behind REFUSED");
        MailViews x = withMessages(DELETED, 0);
        x.select(0, 0, true);
        x.select(1, 0, false);
        x.select(2, 0, false);
        x.expunge(1);
        due.is("to read only and gone", x.store(0, 1, 0, 0), READ_ONLY);
        due.is("to read only", x.store(0, 2, 0, 0), READ_ONLY);
        due.is("gone", x.store(2, 1, 0, 0), GONE);
        due.is("to read only, number", x.store(0, 3, 0, 0), REFUSED);
        due.is("to read only, mode", x.store(0, 1, 3, 0), REFUSED);
        due.is("to read only, flags", x.store(0, 1, 0, 32), REFUSED);
        due.is("gone, mode", x.store(2, 1, -1, 0), REFUSED);
        due.is("gone, flags", x.store(2, 1, 1, -1), REFUSED);
        dueChanges(x, 3, 0);
    }

    private static void storeMode0() {
        due.in("7: mode 0: to flags 0 .. 31");
        MailViews x = withMessages(SEEN);
        x.select(0, 0, false);
        due.is("31", x.store(0, 1, 0, 31), 31);
        due.is("0", x.store(0, 1, 0, 0), 0);
        due.is("21", x.store(0, 1, 0, 21), 21);
        dueMessage(x, 0, 0, 1, 21, 10);
    }

    private static void storeMode1() {
        due.in("7: 1: to those it has and flags");
        MailViews x = withMessages(SEEN);
        x.select(0, 0, false);
        due.is("none", x.store(0, 1, 1, 0), SEEN);
        due.is("the same", x.store(0, 1, 1, SEEN), SEEN);
        due.is("some of them", x.store(0, 1, 1, SEEN | MARKED), SEEN | MARKED);
        due.is("all", x.store(0, 1, 1, 31), 31);
        dueMessage(x, 0, 0, 1, 31, 10);
    }

    private static void storeMode2() {
        due.in("7: 2: to those it has without flags");
        MailViews x = withMessages(31);
        x.select(0, 0, false);
        due.is("none", x.store(0, 1, 2, 0), 31);
        due.is("one", x.store(0, 1, 2, DRAFT), 15);
        due.is("one that it has not", x.store(0, 1, 2, DRAFT), 15);
        due.is("one of both", x.store(0, 1, 2, DRAFT | SEEN), 14);
        due.is("all", x.store(0, 1, 2, 31), 0);
        due.is("of none", x.store(0, 1, 2, 31), 0);
        dueMessage(x, 0, 0, 1, 0, 10);
    }

    private static void storeSetsWhatItHasNotWhatIsKnown() {
        due.in("7: those it has, not those that are known; they are known then");
        MailViews x = withMessages(SEEN);
        x.select(0, 0, false);
        x.select(1, 0, false);
        x.store(1, 1, 0, MARKED);
        due.is("mode 1", x.store(0, 1, 1, DRAFT), MARKED | DRAFT);
        dueKnown(x, 0, MARKED | DRAFT);
        dueNotices(x, 0);
        x.store(1, 1, 0, 15);
        due.is("mode 2", x.store(0, 1, 2, ANSWERED), 13);
        dueKnown(x, 0, 13);
        dueNotices(x, 0);
    }

    private static void storeUpdatesWithoutRemovals() {
        due.in("7: Then the session is UPDATED without removals");
        MailViews x = withMessages(0, DELETED, SEEN);
        x.select(0, 0, false);
        x.select(1, 0, false);
        x.expunge(1);
        x.store(1, 2, 0, DRAFT);
        x.append(0, MARKED, 1);
        due.is("store", x.store(0, 1, 0, ANSWERED), ANSWERED);
        dueNotices(x, 0, EXISTS, 4, FLAGGED, 3);
        dueView(x, 0, 1, 2, 3, 4);
        dueKnown(x, 0, ANSWERED, DELETED, DRAFT, MARKED);
        dueKnown(x, 1, 0, DRAFT);
    }

    private static void expungeReadOnly() {
        due.in("8: READ_ONLY");
        MailViews x = withMessages(DELETED);
        x.select(0, 0, true);
        x.append(0, 0, 1);
        due.is("to read only", x.expunge(0), READ_ONLY);
        dueMessages(x, 0, 1, 2);
        dueView(x, 0, 1);
        due.is("without a mailbox", x.expunge(1), REFUSED);
        for (int s : NO_SESSIONS) {
            due.is("expunge(" + s + ")", x.expunge(s), REFUSED);
        }
        dueChanges(x, 2, 0);
    }

    private static void expungeNoneAndAll() {
        due.in("8: How many were removed");
        MailViews x = new MailViews();
        x.select(0, 0, false);
        due.is("of an empty mailbox", x.expunge(0), 0);
        appendMany(x, 0, 31 - DELETED, 1);
        due.is("none is DELETED", x.expunge(0), 0);
        dueNotices(x, 0, EXISTS, 1);
        x.select(0, 1, false);
        appendMany(x, 1, DELETED, 12);
        x.check(0);
        due.is("all of twelve", x.expunge(0), 12);
        dueMessages(x, 1);
        dueView(x, 0);
        due.is("the last notice", x.notice(0, 11, 1), 1);
        due.is("behind it", x.notice(0, 12, 0), REFUSED);
        dueMessages(x, 0, 1);
    }

    private static void expungeTheMailboxNotTheView() {
        due.in("8: Removes all messages of the mailbox; then the session is UPDATED with removals");
        MailViews x = withMessages(0, 0);
        x.select(0, 0, false);
        x.select(1, 0, false);
        x.store(1, 1, 0, DELETED);
        x.append(0, DELETED, 1);
        x.append(0, DRAFT, 1);
        due.is("one known, one not in the view", x.expunge(0), 2);
        dueNotices(x, 0, EXPUNGED, 1, EXISTS, 2);
        dueView(x, 0, 2, 4);
        dueMessages(x, 0, 2, 4);
        dueView(x, 1, 1, 2);
    }

    private static void copyRanges() {
        due.in("9: the sequence number (else REFUSED) to a mailbox 0 .. 2");
        MailViews x = withMessages(SEEN, 0);
        x.select(0, 0, false);
        x.append(0, 0, 1);
        for (int number : new int[] {0, -1, 3, LEAST, MOST}) {
            due.is("number " + number, x.copy(0, number, 1), REFUSED);
        }
        for (int m : NO_MAILBOXES) {
            due.is("mailbox " + m, x.copy(0, 1, m), REFUSED);
        }
        for (int s : NO_SESSIONS) {
            due.is("session " + s, x.copy(s, 1, 1), REFUSED);
        }
        due.is("without a mailbox", x.copy(1, 1, 1), REFUSED);
        dueChanges(x, 3, 0);
        dueView(x, 0, 1, 2);
        due.is("the first", x.copy(0, 1, 1), 1);
        due.is("the last", x.copy(0, 2, 2), 1);
    }

    private static void copyOrderOfRefusals() {
        due.in("9: GONE, FULL (in this order), behind REFUSED");
        MailViews x = withMessages(DELETED, 0);
        appendMany(x, 1, 0, 12);
        x.select(0, 0, false);
        x.select(1, 0, false);
        x.expunge(1);
        due.is("gone", x.copy(0, 1, 2), GONE);
        due.is("gone and full", x.copy(0, 1, 1), GONE);
        due.is("full", x.copy(0, 2, 1), FULL);
        due.is("gone, mailbox", x.copy(0, 1, 3), REFUSED);
        due.is("full, number", x.copy(0, 3, 1), REFUSED);
        dueView(x, 0, 1, 2);
        dueChanges(x, 15, 8);
    }

    private static void copyFlagsAndSize() {
        due.in("9: Adds a message with the flags and size of that: as the mailbox has them; its UID");
        MailViews x = withMessages(0, 31);
        x.append(1, 0, 1);
        x.select(0, 0, false);
        x.select(1, 0, false);
        x.store(1, 1, 0, ANSWERED);
        due.is("copy", x.copy(0, 1, 1), 2);
        dueMessage(x, 1, 1, 2, ANSWERED, 10);
        dueNotices(x, 0, FLAGGED, 1);
        due.is("copy", x.copy(0, 2, 1), 3);
        dueMessage(x, 1, 2, 3, 31, 20);
        dueMessages(x, 0, 1, 2);
    }

    private static void copyToThisOneToo() {
        due.in("9: to a mailbox (this one too)");
        MailViews x = withMessages(DELETED, 0);
        x.select(0, 0, false);
        due.is("copy", x.copy(0, 1, 0), 3);
        dueNotices(x, 0, EXISTS, 3);
        dueView(x, 0, 1, 2, 3);
        dueKnown(x, 0, DELETED, 0, DELETED);
        dueMessage(x, 0, 2, 3, DELETED, 10);
    }

    private static void copyFromReadOnly() {
        due.in("9: READ_ONLY is not told of copy");
        MailViews x = withMessages(SEEN);
        x.select(0, 0, true);
        due.is("to another", x.copy(0, 1, 2), 1);
        due.is("to this one", x.copy(0, 1, 0), 2);
        dueMessages(x, 0, 1, 2);
    }

    private static void copyFullDoesNotUpdate() {
        due.in("9: FULL changes nothing: the session is not updated");
        MailViews x = new MailViews();
        appendMany(x, 0, 0, 11);
        x.select(0, 0, false);
        x.append(0, 0, 1);
        due.is("copy", x.copy(0, 1, 0), FULL);
        due.is("the view stays", x.seen(0, 12, 0), REFUSED);
        dueNotices(x, 0);
    }

    private static void copyUpdatesTheSessionAlone() {
        due.in("9: Then the session is UPDATED with removals");
        MailViews x = withMessages(DELETED, 0);
        x.select(0, 0, false);
        x.select(1, 0, false);
        x.select(2, 1, false);
        x.expunge(1);
        x.append(0, 0, 1);
        due.is("copy", x.copy(0, 2, 1), 1);
        dueNotices(x, 0, EXPUNGED, 1, EXISTS, 2);
        dueView(x, 0, 2, 3);
        dueView(x, 1, 2);
        dueView(x, 2);
    }

    private static void criterionOps() {
        due.in("10: op 0 .. 8; how many it has");
        MailViews x = new MailViews();
        for (int op = 0; op <= 8; op++) {
            due.is("op " + op, x.criterion(op, 0, 0), op + 1);
        }
        for (int op : new int[] {-1, 9, LEAST, MOST}) {
            due.is("op " + op, x.criterion(op, 0, 0), REFUSED);
        }
        due.is("count(2)", x.count(2), 9);
    }

    private static void criterionAnyAAndB() {
        due.in("10: any a and b");
        MailViews x = new MailViews();
        int tokens = 0;
        for (int a : new int[] {LEAST, -1, MOST}) {
            for (int b : new int[] {LEAST, 1000, MOST}) {
                tokens++;
                due.is("criterion(4, " + a + ", " + b + ")", x.criterion(UIDS, a, b), tokens);
            }
        }
    }

    private static void criterionFull() {
        due.in("10: It has 14: FULL");
        MailViews x = new MailViews();
        for (int many = 1; many <= 14; many++) {
            due.is("token " + many, x.criterion(ALL, 0, 0), many);
        }
        due.is("token 15", x.criterion(ALL, 0, 0), FULL);
        due.is("the op is tested first", x.criterion(9, 0, 0), REFUSED);
        due.is("the op is tested first", x.criterion(-1, 0, 0), REFUSED);
        due.is("count(2)", x.count(2), 14);
    }

    private static void searchRefusedKeepsTheRow() {
        due.in("11: empty afterwards, but not if REFUSED");
        MailViews x = withMessages(0, SEEN);
        x.select(0, 0, true);
        x.criterion(NOT, 0, 0);
        due.is("without a mailbox", x.search(1), REFUSED);
        for (int s : NO_SESSIONS) {
            due.is("search(" + s + ")", x.search(s), REFUSED);
        }
        due.is("count(2)", x.count(2), 1);
        due.is("the next token", x.criterion(HAS, SEEN, 0), 2);
        due.is("without a mailbox", x.search(3), REFUSED);
        dueSearch(x, 0, 1);
        due.is("count(2)", x.count(2), 0);
    }

    private static void searchWrongEmptiesTheRow() {
        due.in("11: WRONG if it is not GOOD; empty afterwards (also if WRONG)");
        MailViews x = withMessages(0, SEEN);
        x.select(0, 0, true);
        x.criterion(HAS, SEEN, 0);
        dueSearch(x, 0, 2);
        x.append(0, 0, 1);
        dueWrong(x, NOT);
        dueWrong(x);
        dueFound(x, 2);
        dueNotices(x, 0);
        dueView(x, 0, 1, 2);
        x.criterion(ALL, 0, 0);
        dueSearch(x, 0, 1, 2);
    }

    private static void searchLeavesOutTheGone() {
        due.in("11: the sequence numbers of the messages that the mailbox has, in order");
        MailViews x = withMessages(DELETED, 0, DELETED, 0);
        x.select(0, 0, true);
        x.select(1, 0, false);
        x.expunge(1);
        x.criterion(ALL, 0, 0);
        dueSearch(x, 0, 2, 4);
        x.criterion(NOT, 0, 0);
        x.criterion(HAS, 31, 0);
        dueSearch(x, 0, 2, 4);
        x.criterion(NUMBERS, 1, 1);
        dueSearch(x, 0);
    }

    private static void searchTakesFlagsOfTheMailbox() {
        due.in("11: that fulfil it with their flags as the mailbox has them");
        MailViews x = withMessages(SEEN, 0);
        x.select(0, 0, true);
        x.select(1, 0, false);
        x.store(1, 1, 0, 0);
        x.store(1, 2, 0, SEEN);
        x.criterion(HAS, SEEN, 0);
        dueSearch(x, 0, 2);
        dueNotices(x, 0, FLAGGED, 1, FLAGGED, 2);
    }

    private static void searchThenUpdates() {
        due.in("11: Searches the view; then the session is UPDATED without removals");
        MailViews x = withMessages(DELETED, 0);
        x.select(0, 0, true);
        x.select(1, 0, false);
        x.expunge(1);
        x.append(0, 0, 1);
        x.criterion(ALL, 0, 0);
        dueSearch(x, 0, 2);
        dueNotices(x, 0, EXISTS, 3);
        dueView(x, 0, 1, 2, 3);
        x.criterion(ALL, 0, 0);
        dueSearch(x, 0, 2, 3);
        dueNotices(x, 0);
    }

    private static void foundRange() {
        due.in("12: The k-th (from 0); REFUSED if there is none");
        MailViews x = withMessages(0, SEEN, SEEN);
        due.is("before any search", x.found(0), REFUSED);
        x.select(0, 0, true);
        x.criterion(HAS, SEEN, 0);
        dueSearch(x, 0, 2, 3);
        for (int k : new int[] {-1, 2, 3, 24, LEAST, MOST}) {
            due.is("found(" + k + ")", x.found(k), REFUSED);
        }
    }

    private static void foundOfTheLastThatAnswered() {
        due.in("12: by the last search that answered 0 or more");
        MailViews x = withMessages(0, SEEN, DELETED);
        x.select(0, 0, false);
        x.select(1, 0, false);
        x.criterion(NUMBERS, 2, 3);
        dueSearch(x, 0, 2, 3);
        due.is("WRONG", x.search(0), WRONG);
        dueFound(x, 2, 3);
        x.criterion(ALL, 0, 0);
        due.is("REFUSED", x.search(2), REFUSED);
        dueFound(x, 2, 3);
        x.expunge(1);
        x.check(0);
        dueFound(x, 2, 3);
        x.close(0);
        dueFound(x, 2, 3);
        dueSearch(x, 1, 1, 2);
        x.criterion(LARGER, 999, 0);
        dueSearch(x, 1);
    }

    private static void syncCounts() {
        due.in("13: All changes become durable: how many there are");
        MailViews x = new MailViews();
        due.is("none", x.sync(), 0);
        x.append(0, 0, 1);
        dueChanges(x, 1, 0);
        due.is("one", x.sync(), 1);
        dueChanges(x, 1, 1);
        due.is("again", x.sync(), 1);
        appendMany(x, 0, 0, 10);
        dueChanges(x, 11, 9);
        due.is("ten more", x.sync(), 11);
        dueChanges(x, 11, 11);
        due.is("crash", x.crash(), 11);
        due.is("messages", x.mailbox(0, 0), 11);
    }

    private static void crashLeavesNoSessionAMailbox() {
        due.in("14: All sessions have no mailbox");
        MailViews x = withMessages(0);
        x.sync();
        for (int s = 0; s < 4; s++) {
            x.select(s, s % 3, s == 1);
        }
        due.is("crash", x.crash(), 1);
        for (int s = 0; s < 4; s++) {
            due.is("close(" + s + ")", x.close(s), REFUSED);
            due.is("seen(" + s + ", 1, 0)", x.seen(s, 1, 0), REFUSED);
            due.is("notice(" + s + ", 0, 0)", x.notice(s, 0, 0), REFUSED);
        }
        for (int m = 0; m < 3; m++) {
            due.is("sessions of " + m, x.mailbox(m, 3), 0);
        }
        due.is("select", x.select(1, 0, false), 1);
        due.is("not to read only", x.store(1, 1, 0, SEEN), SEEN);
    }

    private static void crashWithNothingToTakeBack() {
        due.in("14: How many changes are left: with none to take back, all");
        MailViews x = new MailViews();
        appendMany(x, 0, 0, 8);
        due.is("crash", x.crash(), 8);
        due.is("again", x.crash(), 8);
        due.is("messages", x.mailbox(0, 0), 8);
        due.is("validity", x.mailbox(0, 2), 1);
        due.is("next UID", x.mailbox(0, 1), 9);
    }

    private static void crashTakesBackAdded() {
        due.in("14: The changes that are not durable are taken back: added");
        MailViews x = new MailViews();
        appendMany(x, 0, 0, 7);
        due.is("crash", x.crash(), 0);
        dueMessages(x, 0);
        dueChanges(x, 0, 0);
        due.is("next UID", x.mailbox(0, 1), 1);
        due.is("validity", x.mailbox(0, 2), 2);
        due.is("append", x.append(0, MARKED, 5), 1);
        dueMessage(x, 0, 0, 1, MARKED, 5);
    }

    private static void crashTakesBackRemoved() {
        due.in("14: The changes that are not durable are taken back: removed, which leaves the VALIDITY");
        MailViews x = withMessages(31, 0, DELETED);
        x.sync();
        x.select(0, 0, false);
        due.is("expunge", x.expunge(0), 2);
        due.is("crash", x.crash(), 3);
        dueMessages(x, 0, 1, 2, 3);
        dueMessage(x, 0, 0, 1, 31, 10);
        dueMessage(x, 0, 2, 3, DELETED, 30);
        due.is("validity", x.mailbox(0, 2), 1);
        due.is("next UID", x.mailbox(0, 1), 4);
    }

    private static void crashTakesBackFlags() {
        due.in("14: The changes that are not durable are taken back: flags set, which leaves the VALIDITY");
        MailViews x = withMessages(SEEN, 0);
        x.sync();
        x.select(0, 0, false);
        x.store(0, 1, 0, MARKED);
        x.store(0, 1, 0, DELETED);
        x.expunge(0);
        due.is("crash", x.crash(), 2);
        dueMessage(x, 0, 0, 1, SEEN, 10);
        dueMessage(x, 0, 1, 2, 0, 20);
        due.is("validity", x.mailbox(0, 2), 1);
        due.is("next UID", x.mailbox(0, 1), 3);
    }

    private static void crashTakesBackAddedAndRemoved() {
        due.in("14: a message that was added and removed since: the VALIDITY grows, the NEXT UID goes back");
        MailViews x = withMessages(0);
        x.sync();
        x.select(0, 0, false);
        due.is("append", x.append(0, DELETED, 9), 2);
        due.is("expunge", x.expunge(0), 1);
        due.is("crash", x.crash(), 1);
        dueMessages(x, 0, 1);
        due.is("validity", x.mailbox(0, 2), 2);
        due.is("next UID", x.mailbox(0, 1), 2);
        due.is("append", x.append(0, 0, 9), 2);
    }

    private static void crashFillsAFullMailboxAgain() {
        due.in("14: taken back as if they had never been: a full mailbox is full again");
        MailViews x = new MailViews();
        appendMany(x, 0, DELETED, 3);
        appendMany(x, 0, SEEN, 9);
        x.sync();
        x.select(0, 0, false);
        due.is("expunge", x.expunge(0), 3);
        due.is("append", x.append(0, 0, 7), 13);
        due.is("append", x.append(0, 0, 7), 14);
        due.is("append", x.append(0, 0, 7), 15);
        due.is("append", x.append(0, 0, 7), FULL);
        due.is("crash", x.crash(), 12);
        dueMessages(x, 0, 1, 2, 3, 4, 5, 6, 7, 8, 9, 10, 11, 12);
        due.is("append", x.append(0, 0, 7), FULL);
        due.is("next UID", x.mailbox(0, 1), 13);
        due.is("validity", x.mailbox(0, 2), 2);
    }

    private static void crashValidityGrowsOnceInEachMailbox() {
        due.in("14: in each mailbox to which a message was added by one of these the VALIDITY grows by 1");
        MailViews x = withMessages(SEEN);
        x.sync();
        x.select(0, 0, false);
        x.copy(0, 1, 1);
        x.copy(0, 1, 1);
        x.copy(0, 1, 2);
        x.store(0, 1, 0, 0);
        due.is("crash", x.crash(), 1);
        due.is("validity of the source", x.mailbox(0, 2), 1);
        due.is("validity where two were added", x.mailbox(1, 2), 2);
        due.is("validity where one was added", x.mailbox(2, 2), 2);
        due.is("crash with no more", x.crash(), 1);
        due.is("validity", x.mailbox(1, 2), 2);
        x.append(1, 0, 1);
        due.is("crash", x.crash(), 1);
        due.is("validity", x.mailbox(1, 2), 3);
        due.is("validity", x.mailbox(2, 2), 2);
    }

    private static void crashNextUidBeforeTheFirst() {
        due.in("14: its NEXT UID is what it was before the first such one");
        MailViews x = withMessages(0, DELETED);
        x.sync();
        x.append(0, DELETED, 1);
        x.append(0, 0, 1);
        x.select(0, 0, false);
        x.expunge(0);
        x.append(0, 0, 1);
        due.is("next UID", x.mailbox(0, 1), 6);
        due.is("crash", x.crash(), 2);
        due.is("next UID", x.mailbox(0, 1), 3);
        dueMessages(x, 0, 1, 2);
        due.is("append", x.append(0, 0, 1), 3);
    }

    private static void crashNextUidAboveRemovedOnes() {
        due.in("14: its NEXT UID is what it was before the first such one, not one above the last message");
        MailViews x = withMessages(0, DELETED, DELETED);
        x.select(0, 0, false);
        x.expunge(0);
        x.sync();
        x.append(0, 0, 1);
        x.append(0, 0, 1);
        due.is("crash", x.crash(), 5);
        due.is("next UID", x.mailbox(0, 1), 4);
        due.is("crash with nothing added", x.crash(), 5);
        due.is("next UID", x.mailbox(0, 1), 4);
        dueMessages(x, 0, 1);
        due.is("append", x.append(0, 0, 1), 4);
    }

    private static void crashLeavesTheDurable() {
        due.in("14: How many changes are left");
        MailViews x = new MailViews();
        appendMany(x, 0, DELETED, 5);
        x.select(0, 0, false);
        due.is("the third removed is the eighth change", x.expunge(0), 5);
        dueChanges(x, 10, 8);
        due.is("crash", x.crash(), 8);
        dueChanges(x, 8, 8);
        dueMessages(x, 0, 4, 5);
        due.is("validity", x.mailbox(0, 2), 1);
        due.is("next UID", x.mailbox(0, 1), 6);
    }

    private static void crashLeavesCriterionAndFound() {
        due.in("14: what is no mailbox and no session stays");
        MailViews x = withMessages(0, SEEN);
        x.select(0, 0, false);
        x.criterion(HAS, SEEN, 0);
        dueSearch(x, 0, 2);
        x.criterion(NOT, 0, 0);
        x.crash();
        dueFound(x, 2);
        due.is("count(2)", x.count(2), 1);
    }

    private static void messageRanges() {
        due.in("15: the k-th (from 0): UID (0), flags (1), size (2); REFUSED if there is none");
        MailViews x = withMessages(SEEN, DRAFT);
        appendMany(x, 2, 3, 12);
        dueMessage(x, 0, 0, 1, SEEN, 10);
        dueMessage(x, 0, 1, 2, DRAFT, 20);
        dueMessage(x, 2, 11, 12, 3, 1);
        for (int what = 0; what <= 2; what++) {
            for (int k : new int[] {-1, 2, 11, 12, LEAST, MOST}) {
                due.is("message(0, " + k + ", " + what + ")", x.message(0, k, what), REFUSED);
            }
            due.is("behind twelve", x.message(2, 12, what), REFUSED);
            due.is("of an empty mailbox", x.message(1, 0, what), REFUSED);
            for (int m : NO_MAILBOXES) {
                due.is("message(" + m + ", 0, " + what + ")", x.message(m, 0, what), REFUSED);
            }
        }
        for (int what : new int[] {-1, 3, LEAST, MOST}) {
            due.is("message(0, 0, " + what + ")", x.message(0, 0, what), REFUSED);
        }
    }

    private static void seenRanges() {
        due.in("16: the UID (0), the flags known (1) of the sequence number; REFUSED if there is none");
        MailViews x = withMessages(DELETED, SEEN, 31 - DELETED);
        x.select(0, 0, false);
        x.expunge(0);
        dueView(x, 0, 2, 3);
        dueKnown(x, 0, SEEN, 31 - DELETED);
        for (int number : new int[] {0, -1, 3, 25, LEAST, MOST}) {
            due.is("seen(0, " + number + ", 0)", x.seen(0, number, 0), REFUSED);
            due.is("seen(0, " + number + ", 1)", x.seen(0, number, 1), REFUSED);
        }
        for (int what : new int[] {-1, 2, LEAST, MOST}) {
            due.is("seen(0, 1, " + what + ")", x.seen(0, 1, what), REFUSED);
        }
        for (int s : NO_SESSIONS) {
            due.is("seen(" + s + ", 1, 0)", x.seen(s, 1, 0), REFUSED);
        }
        due.is("without a mailbox", x.seen(1, 1, 0), REFUSED);
        x.select(1, 0, false);
        x.store(1, 1, 0, DELETED);
        x.expunge(1);
        due.is("a message that is gone", x.seen(0, 1, 0), 2);
        due.is("is known as it was", x.seen(0, 1, 1), SEEN);
    }

    private static void noticeRanges() {
        due.in("17: the k-th (from 0) notice: its kind (0), its number (1); REFUSED if there is none");
        MailViews x = withMessages(0, DELETED);
        x.select(0, 0, false);
        x.append(0, 0, 1);
        due.is("told nothing yet", x.notice(0, 0, 0), REFUSED);
        x.expunge(0);
        dueNotices(x, 0, EXPUNGED, 2, EXISTS, 2);
        for (int k : new int[] {-1, 2, 24, 49, LEAST, MOST}) {
            due.is("notice(0, " + k + ", 0)", x.notice(0, k, 0), REFUSED);
            due.is("notice(0, " + k + ", 1)", x.notice(0, k, 1), REFUSED);
        }
        for (int what : new int[] {-1, 2, LEAST, MOST}) {
            due.is("notice(0, 0, " + what + ")", x.notice(0, 0, what), REFUSED);
        }
        for (int s : NO_SESSIONS) {
            due.is("notice(" + s + ", 0, 0)", x.notice(s, 0, 0), REFUSED);
        }
        due.is("another session", x.notice(1, 0, 0), REFUSED);
        x.close(0);
        due.is("without a mailbox", x.notice(0, 0, 0), REFUSED);
    }

    private static void mailboxRanges() {
        due.in("18: messages (0), NEXT UID (1), VALIDITY (2), sessions that have it (3); else REFUSED");
        MailViews x = withMessages(0, 0);
        x.crash();
        appendMany(x, 0, DELETED, 3);
        x.select(0, 0, false);
        x.expunge(0);
        x.append(0, 0, 1);
        due.is("messages", x.mailbox(0, 0), 1);
        due.is("next UID", x.mailbox(0, 1), 5);
        due.is("validity", x.mailbox(0, 2), 2);
        due.is("sessions", x.mailbox(0, 3), 1);
        for (int what : new int[] {-1, 4, LEAST, MOST}) {
            due.is("mailbox(0, " + what + ")", x.mailbox(0, what), REFUSED);
        }
        for (int what = 0; what <= 3; what++) {
            for (int m : NO_MAILBOXES) {
                due.is("mailbox(" + m + ", " + what + ")", x.mailbox(m, what), REFUSED);
            }
        }
    }

    private static void mailboxCountsSessions() {
        due.in("18: sessions that have it");
        MailViews x = new MailViews();
        for (int s = 0; s < 4; s++) {
            x.select(s, 1, s % 2 == 0);
            due.is("after select(" + s + ")", x.mailbox(1, 3), s + 1);
        }
        x.select(0, 1, false);
        due.is("the same again", x.mailbox(1, 3), 4);
        x.select(0, 2, false);
        due.is("one went to another", x.mailbox(1, 3), 3);
        due.is("the other", x.mailbox(2, 3), 1);
        x.close(3);
        due.is("one closed", x.mailbox(1, 3), 2);
        x.crash();
        due.is("crash", x.mailbox(1, 3), 0);
        due.is("crash", x.mailbox(2, 3), 0);
    }

    private static void countRanges() {
        due.in("19: Changes (0), durable ones (1), tokens of the criterion (2), FOUND (3); else REFUSED");
        MailViews x = withMessages(0, 0, 0, 0);
        x.sync();
        x.append(0, 0, 1);
        x.select(0, 0, false);
        x.criterion(NUMBERS, 1, 3);
        x.search(0);
        x.criterion(NOT, 0, 0);
        x.criterion(ALL, 0, 0);
        due.is("changes", x.count(0), 5);
        due.is("durable", x.count(1), 4);
        due.is("tokens", x.count(2), 2);
        due.is("found", x.count(3), 3);
        for (int what : new int[] {-1, 4, LEAST, MOST}) {
            due.is("count(" + what + ")", x.count(what), REFUSED);
        }
    }

    /** 39 rounds of 13 calls, and a few to look: 512 in all. */
    private static void manyUids() {
        due.in("an object is used for at most 512 calls: UIDs");
        MailViews x = new MailViews();
        x.select(0, 0, false);
        for (int round = 0; round < 39; round++) {
            for (int many = 1; many <= 12; many++) {
                due.is("append", x.append(0, DELETED, 1), 12 * round + many);
            }
            due.is("expunge", x.expunge(0), 12);
        }
        due.is("next UID", x.mailbox(0, 1), 469);
        due.is("changes", x.count(0), 936);
        due.is("durable", x.count(1), 936);
        due.is("crash", x.crash(), 936);
    }

    private static void manyValidities() {
        due.in("an object is used for at most 512 calls: validity");
        MailViews x = new MailViews();
        for (int round = 0; round < 255; round++) {
            due.is("append", x.append(2, 0, 1), 1);
            due.is("crash", x.crash(), 0);
        }
        due.is("validity", x.mailbox(2, 2), 256);
        due.is("next UID", x.mailbox(2, 1), 1);
    }

    private static void manyChanges() {
        due.in("an object is used for at most 512 calls: changes");
        MailViews x = withMessages(0);
        x.select(0, 0, false);
        for (int many = 1; many <= 507; many++) {
            due.is("store", x.store(0, 1, 0, many % 32), many % 32);
        }
        dueChanges(x, 508, 504);
        due.is("crash", x.crash(), 504);
    }

    /** LANGUAGE.md, rule 7: no call may throw, whatever came before, also where its answer is free. */
    private static void noCallThrows() {
        due.in("any arguments in any state");
        java.util.Random random = new java.util.Random(7);
        int[] some = {LEAST, -1000, -1, 0, 0, 1, 1, 2, 2, 3, 4, 5, 8, 8, 12, 13, 24, 25, 31, 32, 999, 1000, MOST};
        MailViews x = new MailViews();
        int least = 0;
        for (int many = 0; many < 200_000; many++) {
            int[] args = new int[4];
            for (int at = 0; at < 4; at++) {
                args[at] = some[random.nextInt(some.length)];
            }
            least = Math.min(least, anyCall(x, random.nextInt(18), args[0], args[1], args[2], args[3]));
        }
        due.is("the least answer of all", least, WRONG);
    }

    private static int anyCall(MailViews x, int kind, int a, int b, int c, int d) {
        return switch (kind) {
            case 0 -> x.append(a, b, c);
            case 1 -> x.select(a, b, c > 8);
            case 2 -> d == 0 ? x.close(a) : x.check(a);
            case 3 -> x.check(a);
            case 4 -> x.fetch(a, b);
            case 5 -> x.store(a, b, c, d);
            case 6 -> x.expunge(a);
            case 7 -> x.copy(a, b, c);
            case 8 -> x.criterion(a, b, c);
            case 9 -> x.search(a);
            case 10 -> x.found(a);
            case 11 -> x.sync();
            case 12 -> d == 0 ? x.crash() : x.count(b);
            case 13 -> x.message(a, b, c);
            case 14 -> x.seen(a, b, c);
            case 15 -> x.notice(a, b, c);
            case 16 -> x.mailbox(a, b);
            default -> x.count(a);
        };
    }
}
