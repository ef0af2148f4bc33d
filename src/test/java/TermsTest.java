/** A method for each sentence of "Terms" that names an edge; due.in(..) says the sentence. */
public final class TermsTest extends TestBase {
    public static void main(String[] args) {
        mailboxes();
        messages();
        changes();
        sessions();
        criteria();
        due.end();
    }

    private static void mailboxes() {
        mailboxesFrom0To2();
        atMostTwelveMessages();
        twelveByCopyIntoThisMailbox();
        twelveByCopyIntoAnother();
        aRemovedMessageLeavesRoom();
        inTheOrderOfTheirUids();
        nextUidAndValidityAt1();
    }

    private static void messages() {
        everySumOfFlags();
        sizeFrom1To999();
        addedGetsTheNextUid();
        fullTakesNoUid();
    }

    private static void changes() {
        eachIsOneChange();
        alsoToWhatTheyWere();
        theRestIsNoChange();
        sevenAreNotDurable();
        eightAreDurableWhicheverIsTheLast();
        eightWithinOneExpunge();
        eightWithinOneClose();
        eightCountFromTheLastDurable();
        theFirstSoManyAreDurable();
    }

    private static void sessions() {
        sessionsFrom0To3();
        noMailboxAtFirst();
        toReadOnlyOrNot();
        sequenceNumbersFrom1();
        anEmptyViewHasNoNumber();
        viewStaysUntilUpdated();
        toldInPlaceOfThoseBefore();
        removalsOnlyWithRemovals();
        expungedWithTheNumberItHadThen();
        allLeave();
        existsIsOneNotice();
        noExistsWithoutNewOnes();
        existsWithTheNumberInTheViewThen();
        aboveAllThatWereInTheView();
        viewHasAtMost24();
        asManyAsThereIsRoomFor();
        roomOnceTheGoneHaveLeft();
        flaggedInOrder();
        flaggedOnlyWithOtherFlags();
        noFlaggedForOneGoneOrNew();
        flaggedWithTheNumberAfterRemovals();
    }

    private static void criteria() {
        atMostFourteenTokens();
        fourteenAgainAfterSearch();
        anEmptyRowIsNotGood();
        justOneCriterion();
        aLackingPart();
        rowsOfEveryLength();
        insideOfFive();
        insideOfSix();
        hasSomeFlag();
        sizesAboveAndBelow();
        fromAToB();
        notBothEither();
    }

    private static void mailboxesFrom0To2() {
        due.in("MAILBOXES 0 .. 2");
        MailViews x = new MailViews();
        for (int m = 0; m < 3; m++) {
            due.is("append to " + m, x.append(m, 0, 7 + m), 1);
            due.is("select of " + m, x.select(0, m, false), 1);
            due.is("copy to " + m, x.copy(0, 1, m), 2);
            due.is("messages of " + m, x.mailbox(m, 0), 2);
            due.is("size in " + m, x.message(m, 1, 2), 7 + m);
        }
        for (int m : NO_MAILBOXES) {
            due.is("append to " + m, x.append(m, 0, 1), REFUSED);
            due.is("select of " + m, x.select(0, m, false), REFUSED);
            due.is("copy to " + m, x.copy(0, 1, m), REFUSED);
            for (int what = 0; what < 4; what++) {
                due.is("mailbox(" + m + ", " + what + ")", x.mailbox(m, what), REFUSED);
                due.is("message(" + m + ", 0, " + what + ")", x.message(m, 0, what), REFUSED);
            }
        }
    }

    private static void atMostTwelveMessages() {
        due.in("A mailbox has messages, at most 12; more than 12: FULL");
        MailViews x = new MailViews();
        for (int m = 0; m < 3; m++) {
            for (int many = 1; many <= 12; many++) {
                due.is("append to " + m, x.append(m, 0, many), many);
            }
            due.is("the thirteenth of " + m, x.append(m, 0, 13), FULL);
            due.is("again", x.append(m, 0, 13), FULL);
            due.is("messages of " + m, x.mailbox(m, 0), 12);
            dueMessage(x, m, 11, 12, 0, 12);
            due.is("behind the last", x.message(m, 12, 0), REFUSED);
        }
    }

    private static void twelveByCopyIntoThisMailbox() {
        due.in("A mailbox has messages, at most 12, also by copy into this one");
        MailViews x = new MailViews();
        appendMany(x, 0, MARKED, 11);
        x.select(0, 0, false);
        due.is("the twelfth", x.copy(0, 1, 0), 12);
        due.is("the thirteenth", x.copy(0, 1, 0), FULL);
        due.is("messages", x.mailbox(0, 0), 12);
        dueNotices(x, 0, EXISTS, 12);
    }

    private static void twelveByCopyIntoAnother() {
        due.in("A mailbox has messages, at most 12, also by copy into another");
        MailViews x = withMessages(SEEN);
        x.select(0, 0, true);
        for (int many = 1; many <= 12; many++) {
            due.is("copy", x.copy(0, 1, 2), many);
        }
        due.is("the thirteenth", x.copy(0, 1, 2), FULL);
        due.is("messages", x.mailbox(2, 0), 12);
        dueMessage(x, 2, 11, 12, SEEN, 10);
    }

    private static void aRemovedMessageLeavesRoom() {
        due.in("at most 12, counting those that it has");
        MailViews x = withMessages(DELETED);
        appendMany(x, 0, 0, 11);
        x.select(0, 0, false);
        due.is("full", x.append(0, 0, 1), FULL);
        due.is("one leaves", x.expunge(0), 1);
        due.is("one has room", x.append(0, 0, 1), 13);
        due.is("full again", x.append(0, 0, 1), FULL);
        dueMessages(x, 0, 2, 3, 4, 5, 6, 7, 8, 9, 10, 11, 12, 13);
    }

    private static void inTheOrderOfTheirUids() {
        due.in("A mailbox has messages in the order of their UIDS");
        MailViews x = withMessages(DELETED, 0, DELETED, 0, DELETED);
        x.sync();
        x.select(0, 0, false);
        x.expunge(0);
        x.append(0, 0, 60);
        dueMessages(x, 0, 2, 4, 6);
        dueMessage(x, 0, 1, 4, 0, 40);
        x.crash();
        dueMessages(x, 0, 1, 2, 3, 4, 5);
        dueMessage(x, 0, 0, 1, DELETED, 10);
        dueMessage(x, 0, 2, 3, DELETED, 30);
        dueMessage(x, 0, 4, 5, DELETED, 50);
    }

    private static void nextUidAndValidityAt1() {
        due.in("a NEXT UID, 1 at first, and a VALIDITY, 1 at first");
        MailViews x = new MailViews();
        for (int m = 0; m < 3; m++) {
            due.is("messages of " + m, x.mailbox(m, 0), 0);
            due.is("next UID of " + m, x.mailbox(m, 1), 1);
            due.is("validity of " + m, x.mailbox(m, 2), 1);
        }
    }

    private static void everySumOfFlags() {
        due.in("FLAGS (a sum of SEEN 1, ANSWERED 2, MARKED 4, DELETED 8, DRAFT 16)");
        MailViews x = new MailViews();
        for (int flags = 0; flags <= 31; flags++) {
            int m = flags / 12;
            due.is("append with " + flags, x.append(m, flags, 1), flags % 12 + 1);
            due.is("flags " + flags, x.message(m, flags % 12, 1), flags);
        }
        for (int flags : NO_FLAGS) {
            due.is("append with " + flags, x.append(2, flags, 1), REFUSED);
        }
    }

    private static void sizeFrom1To999() {
        due.in("a size 1 .. 999");
        MailViews x = new MailViews();
        due.is("the least", x.append(0, 0, 1), 1);
        due.is("the largest", x.append(0, 0, 999), 2);
        dueMessage(x, 0, 0, 1, 0, 1);
        dueMessage(x, 0, 1, 2, 0, 999);
        for (int size : NO_SIZES) {
            due.is("size " + size, x.append(0, 0, size), REFUSED);
        }
        due.is("messages", x.mailbox(0, 0), 2);
    }

    private static void addedGetsTheNextUid() {
        due.in("it gets the NEXT UID, which grows by 1, and stands behind the others");
        MailViews x = new MailViews();
        x.select(0, 0, false);
        for (int uid = 1; uid <= 5; uid++) {
            due.is("next UID", x.mailbox(0, 1), uid);
            due.is("append", x.append(0, uid == 5 ? DELETED : 0, 1), uid);
        }
        due.is("the last leaves", x.expunge(0), 1);
        due.is("its UID is not given again", x.append(0, 0, 1), 6);
        dueMessages(x, 0, 1, 2, 3, 4, 6);
        due.is("next UID", x.mailbox(0, 1), 7);
        due.is("the others have their own", x.mailbox(1, 1), 1);
    }

    private static void fullTakesNoUid() {
        due.in("A call that answers FULL changes nothing: the NEXT UID stays");
        MailViews x = withMessages(DELETED);
        appendMany(x, 0, 0, 11);
        x.select(0, 0, false);
        due.is("append", x.append(0, 0, 1), FULL);
        due.is("copy", x.copy(0, 2, 0), FULL);
        due.is("next UID", x.mailbox(0, 1), 13);
        x.expunge(0);
        due.is("append", x.append(0, 0, 1), 13);
    }

    private static void eachIsOneChange() {
        due.in("CHANGES are: a message is added, a message is removed, the flags of a message are set");
        MailViews x = new MailViews();
        dueChanges(x, 0, 0);
        x.append(0, DELETED, 1);
        dueChanges(x, 1, 0);
        x.select(0, 0, false);
        x.copy(0, 1, 0);
        dueChanges(x, 2, 0);
        x.store(0, 1, 0, DELETED | SEEN);
        dueChanges(x, 3, 0);
        x.expunge(0);
        dueChanges(x, 5, 0);
        x.append(0, DELETED, 1);
        x.close(0);
        dueChanges(x, 7, 0);
    }

    private static void alsoToWhatTheyWere() {
        due.in("the flags of a message are set (also to what they were)");
        MailViews x = withMessages(SEEN);
        x.select(0, 0, false);
        due.is("mode 0", x.store(0, 1, 0, SEEN), SEEN);
        dueChanges(x, 2, 0);
        due.is("mode 1", x.store(0, 1, 1, 0), SEEN);
        dueChanges(x, 3, 0);
        due.is("mode 2", x.store(0, 1, 2, MARKED), SEEN);
        dueChanges(x, 4, 0);
        for (int many = 0; many < 4; many++) {
            x.store(0, 1, 0, SEEN);
        }
        dueChanges(x, 8, 8);
    }

    private static void theRestIsNoChange() {
        due.in("CHANGES are three kinds and no more");
        MailViews x = withMessages(0);
        x.append(1, DELETED, 1);
        x.select(0, 0, false);
        x.select(1, 1, true);
        x.check(0);
        x.fetch(0, 1);
        x.criterion(ALL, 0, 0);
        x.search(0);
        x.expunge(0);
        x.close(0);
        x.close(1);
        x.store(0, 1, 0, 0);
        dueChanges(x, 2, 0);
        x.sync();
        dueChanges(x, 2, 2);
        x.crash();
        dueChanges(x, 2, 2);
    }

    private static void sevenAreNotDurable() {
        due.in("A change is not durable at first; as soon as 8 are not, all become durable");
        MailViews x = new MailViews();
        for (int many = 1; many <= 24; many++) {
            x.append(many % 3, 0, 1);
            dueChanges(x, many, many / 8 * 8);
        }
    }

    /** Seven changes that are not durable, session 0 in mailbox 0 and one message there to remove. */
    private static MailViews beforeTheEighth() {
        MailViews x = withMessages(0, DELETED);
        appendMany(x, 1, 0, 5);
        x.select(0, 0, false);
        dueChanges(x, 7, 0);
        return x;
    }

    private static void eightAreDurableWhicheverIsTheLast() {
        due.in("as soon as 8 are not, all become durable, of whatever kind the eighth is");
        MailViews x = beforeTheEighth();
        x.append(2, 0, 1);
        dueChanges(x, 8, 8);
        x = beforeTheEighth();
        x.copy(0, 1, 2);
        dueChanges(x, 8, 8);
        x = beforeTheEighth();
        x.store(0, 1, 0, 0);
        dueChanges(x, 8, 8);
        x = beforeTheEighth();
        x.expunge(0);
        dueChanges(x, 8, 8);
        x = beforeTheEighth();
        x.close(0);
        dueChanges(x, 8, 8);
        due.is("crash takes nothing back", x.crash(), 8);
        dueMessages(x, 0, 1);
    }

    private static void eightWithinOneExpunge() {
        due.in("as soon as 8 are not, all become durable, also within an expunge");
        MailViews x = new MailViews();
        appendMany(x, 0, DELETED, 12);
        x.sync();
        x.select(0, 0, false);
        due.is("expunge", x.expunge(0), 12);
        dueChanges(x, 24, 20);
        due.is("crash", x.crash(), 20);
        dueMessages(x, 0, 9, 10, 11, 12);
        due.is("validity", x.mailbox(0, 2), 1);
        due.is("next UID", x.mailbox(0, 1), 13);
    }

    private static void eightWithinOneClose() {
        due.in("as soon as 8 are not, all become durable, also within a close");
        MailViews x = new MailViews();
        appendMany(x, 0, DELETED, 12);
        dueChanges(x, 12, 8);
        x.select(0, 0, false);
        due.is("close", x.close(0), 12);
        dueChanges(x, 24, 24);
        due.is("crash", x.crash(), 24);
        dueMessages(x, 0);
    }

    private static void eightCountFromTheLastDurable() {
        due.in("as soon as 8 are not: those that sync made durable do not count, nor those that a crash took back");
        MailViews x = new MailViews();
        appendMany(x, 0, 0, 7);
        due.is("sync", x.sync(), 7);
        appendMany(x, 1, 0, 7);
        dueChanges(x, 14, 7);
        due.is("crash", x.crash(), 7);
        appendMany(x, 1, 0, 7);
        dueChanges(x, 14, 7);
        x.append(1, 0, 1);
        dueChanges(x, 15, 15);
    }

    private static void theFirstSoManyAreDurable() {
        due.in("They are numbered in their order; the first so many are DURABLE");
        MailViews x = new MailViews();
        appendMany(x, 0, 0, 10);
        dueChanges(x, 10, 8);
        due.is("crash", x.crash(), 8);
        dueMessages(x, 0, 1, 2, 3, 4, 5, 6, 7, 8);
    }

    private static void dueRefusedInAllCallsOf(MailViews x, int s) {
        due.is("close(" + s + ")", x.close(s), REFUSED);
        due.is("check(" + s + ")", x.check(s), REFUSED);
        due.is("fetch(" + s + ", 1)", x.fetch(s, 1), REFUSED);
        due.is("store(" + s + ", 1, 0, 0)", x.store(s, 1, 0, 0), REFUSED);
        due.is("expunge(" + s + ")", x.expunge(s), REFUSED);
        due.is("copy(" + s + ", 1, 1)", x.copy(s, 1, 1), REFUSED);
        due.is("search(" + s + ")", x.search(s), REFUSED);
        due.is("seen(" + s + ", 1, 0)", x.seen(s, 1, 0), REFUSED);
        due.is("seen(" + s + ", 1, 1)", x.seen(s, 1, 1), REFUSED);
        due.is("notice(" + s + ", 0, 0)", x.notice(s, 0, 0), REFUSED);
        due.is("notice(" + s + ", 0, 1)", x.notice(s, 0, 1), REFUSED);
    }

    private static void sessionsFrom0To3() {
        due.in("SESSIONS 0 .. 3");
        MailViews x = withMessages(0, DRAFT);
        for (int s = 0; s < 4; s++) {
            due.is("select(" + s + ", 0, false)", x.select(s, 0, false), 2);
            due.is("fetch(" + s + ", 2)", x.fetch(s, 2), DRAFT);
            due.is("sessions", x.mailbox(0, 3), s + 1);
        }
        for (int s : NO_SESSIONS) {
            due.is("select(" + s + ", 0, false)", x.select(s, 0, false), REFUSED);
            dueRefusedInAllCallsOf(x, s);
        }
        due.is("sessions", x.mailbox(0, 3), 4);
    }

    private static void noMailboxAtFirst() {
        due.in("A session has no mailbox (at first); in calls of a session, that it has a mailbox: REFUSED");
        MailViews x = withMessages(0, 0);
        x.criterion(ALL, 0, 0);
        for (int s = 0; s < 4; s++) {
            dueRefusedInAllCallsOf(x, s);
        }
        x.select(1, 0, false);
        dueRefusedInAllCallsOf(x, 0);
        dueRefusedInAllCallsOf(x, 2);
        dueRefusedInAllCallsOf(x, 3);
        due.is("sessions", x.mailbox(0, 3), 1);
    }

    private static void toReadOnlyOrNot() {
        due.in("or one, to read only or not");
        MailViews x = withMessages(0, DELETED);
        x.select(0, 0, true);
        x.select(1, 0, false);
        due.is("store to read only", x.store(0, 1, 0, SEEN), READ_ONLY);
        due.is("expunge to read only", x.expunge(0), READ_ONLY);
        due.is("store", x.store(1, 1, 0, SEEN), SEEN);
        due.is("expunge", x.expunge(1), 1);
    }

    private static void sequenceNumbersFrom1() {
        due.in("the message with SEQUENCE NUMBER n is the n-th (from 1) of the view");
        MailViews x = withMessages(DELETED, SEEN, MARKED);
        x.select(0, 0, false);
        x.expunge(0);
        dueView(x, 0, 2, 3);
        due.is("fetch of the first", x.fetch(0, 1), SEEN);
        due.is("fetch of the last", x.fetch(0, 2), MARKED);
        due.is("store of the last", x.store(0, 2, 1, DRAFT), MARKED | DRAFT);
        due.is("copy of the first", x.copy(0, 1, 1), 1);
        dueMessage(x, 1, 0, 1, SEEN, 20);
        for (int number : new int[] {0, -1, 3, 24, 25, LEAST, MOST}) {
            due.is("fetch of " + number, x.fetch(0, number), REFUSED);
            due.is("store of " + number, x.store(0, number, 0, 0), REFUSED);
            due.is("copy of " + number, x.copy(0, number, 1), REFUSED);
            due.is("seen of " + number, x.seen(0, number, 0), REFUSED);
            due.is("seen of " + number, x.seen(0, number, 1), REFUSED);
        }
    }

    private static void anEmptyViewHasNoNumber() {
        due.in("an empty view");
        MailViews x = new MailViews();
        due.is("select", x.select(0, 0, false), 0);
        due.is("fetch", x.fetch(0, 1), REFUSED);
        due.is("store", x.store(0, 1, 0, 0), REFUSED);
        due.is("copy", x.copy(0, 1, 0), REFUSED);
        due.is("check", x.check(0), 0);
        due.is("expunge", x.expunge(0), 0);
        x.criterion(ALL, 0, 0);
        dueSearch(x, 0);
        dueView(x, 0);
        dueNotices(x, 0);
        x.append(0, DRAFT, 1);
        due.is("the first of all", x.check(0), 1);
        dueNotices(x, 0, EXISTS, 1);
        dueKnown(x, 0, DRAFT);
        due.is("close", x.close(0), 0);
    }

    private static void viewStaysUntilUpdated() {
        due.in("the view and what is known stay until the session is UPDATED");
        MailViews x = withMessages(SEEN, DELETED, 0);
        x.select(0, 0, false);
        x.select(1, 0, false);
        x.expunge(1);
        x.store(1, 1, 0, MARKED);
        x.append(0, DRAFT, 1);
        x.select(2, 0, false);
        x.close(2);
        dueView(x, 0, 1, 2, 3);
        dueKnown(x, 0, SEEN, DELETED, 0);
        dueNotices(x, 0);
        due.is("check", x.check(0), 3);
        dueView(x, 0, 1, 3, 4);
        dueKnown(x, 0, MARKED, 0, DRAFT);
    }

    private static void toldInPlaceOfThoseBefore() {
        due.in("makes it be TOLD a row of NOTICES, in place of those before");
        MailViews x = withMessages(0, DELETED, 0);
        x.select(0, 0, false);
        x.select(1, 0, false);
        x.expunge(1);
        x.append(0, 0, 1);
        due.is("check", x.check(0), 2);
        dueNotices(x, 0, EXPUNGED, 2, EXISTS, 3);
        x.store(1, 1, 0, SEEN);
        due.is("check", x.check(0), 1);
        dueNotices(x, 0, FLAGGED, 1);
        due.is("check", x.check(0), 0);
        dueNotices(x, 0);
        x.append(0, 0, 1);
        x.check(0);
        x.store(0, 1, 0, 0);
        dueNotices(x, 0);
    }

    /** Message 2 of session 0 is gone, and one is new. */
    private static MailViews withOneGone() {
        MailViews x = withMessages(0, DELETED, 0);
        x.select(0, 0, false);
        x.select(1, 0, false);
        x.expunge(1);
        x.append(0, 0, 1);
        return x;
    }

    private static void removalsOnlyWithRemovals() {
        due.in("To UPDATE a session, with removals or without");
        MailViews x = withOneGone();
        x.check(0);
        dueNotices(x, 0, EXPUNGED, 2, EXISTS, 3);
        x = withOneGone();
        x.expunge(0);
        dueNotices(x, 0, EXPUNGED, 2, EXISTS, 3);
        x = withOneGone();
        x.copy(0, 1, 1);
        dueNotices(x, 0, EXPUNGED, 2, EXISTS, 3);
        x = withOneGone();
        x.store(0, 1, 0, 0);
        dueNotices(x, 0, EXISTS, 4);
        dueView(x, 0, 1, 2, 3, 4);
        x = withOneGone();
        x.criterion(ALL, 0, 0);
        x.search(0);
        dueNotices(x, 0, EXISTS, 4);
        dueView(x, 0, 1, 2, 3, 4);
        x = withOneGone();
        x.fetch(0, 1);
        dueNotices(x, 0);
        dueView(x, 0, 1, 2, 3);
    }

    private static void expungedWithTheNumberItHadThen() {
        due.in("EXPUNGED with the sequence number that it had then (those told before having left)");
        MailViews x = withMessages(DELETED, 0, DELETED, DELETED, 0, DELETED);
        x.select(0, 0, true);
        x.select(1, 0, false);
        x.close(1);
        due.is("check", x.check(0), 4);
        dueNotices(x, 0, EXPUNGED, 1, EXPUNGED, 2, EXPUNGED, 2, EXPUNGED, 3);
        dueView(x, 0, 2, 5);
    }

    private static void allLeave() {
        due.in("for each message of the view that the mailbox has no more: all of twelve");
        MailViews x = new MailViews();
        appendMany(x, 0, DELETED, 12);
        x.select(0, 0, true);
        x.select(1, 0, false);
        x.expunge(1);
        due.is("check", x.check(0), 12);
        for (int k = 0; k < 12; k++) {
            due.is("kind of " + k, x.notice(0, k, 0), EXPUNGED);
            due.is("number of " + k, x.notice(0, k, 1), 1);
        }
        dueView(x, 0);
    }

    private static void existsIsOneNotice() {
        due.in("if there are any, one notice is EXISTS");
        MailViews x = withMessages(0);
        x.select(0, 0, false);
        appendMany(x, 0, DRAFT, 3);
        due.is("check", x.check(0), 1);
        dueNotices(x, 0, EXISTS, 4);
        dueView(x, 0, 1, 2, 3, 4);
        dueKnown(x, 0, 0, DRAFT, DRAFT, DRAFT);
    }

    private static void noExistsWithoutNewOnes() {
        due.in("if there are any");
        MailViews x = withMessages(0, DELETED);
        x.select(0, 0, false);
        due.is("nothing happened", x.check(0), 0);
        x.expunge(0);
        dueNotices(x, 0, EXPUNGED, 2);
        x.append(0, DELETED, 1);
        x.select(1, 0, false);
        x.close(1);
        due.is("it came and went meanwhile", x.check(0), 0);
        due.is("into another mailbox", x.copy(0, 1, 1), 1);
        dueNotices(x, 0);
    }

    private static void existsWithTheNumberInTheViewThen() {
        due.in("EXISTS with the number of UIDS in the view then");
        MailViews x = withOneGone();
        x.criterion(ALL, 0, 0);
        x.search(0);
        dueNotices(x, 0, EXISTS, 4);
        x = withOneGone();
        due.is("check", x.check(0), 2);
        dueNotices(x, 0, EXPUNGED, 2, EXISTS, 3);
    }

    private static void aboveAllThatWereInTheView() {
        due.in("The messages of the mailbox with UIDS above all that were in the view since it was made");
        MailViews x = withMessages(0, 0, DELETED);
        x.select(0, 0, false);
        x.expunge(0);
        dueView(x, 0, 1, 2);
        due.is("3 was in the view", x.check(0), 0);
        due.is("copy to this one", x.copy(0, 1, 0), 4);
        dueView(x, 0, 1, 2, 4);
        x.store(0, 3, 0, DELETED);
        x.expunge(0);
        dueView(x, 0, 1, 2);
        x.append(0, 0, 1);
        due.is("check", x.check(0), 1);
        dueView(x, 0, 1, 2, 5);
        x.select(0, 1, false);
        x.append(1, 0, 1);
        due.is("a new view begins anew", x.check(0), 1);
        dueView(x, 0, 1);
    }

    /** Session 0 saw twelve that are gone; so many others stand in the mailbox. */
    private static MailViews afterTwelveGone(int others) {
        MailViews x = new MailViews();
        appendMany(x, 0, DELETED, 12);
        x.select(0, 0, false);
        x.select(1, 0, false);
        x.expunge(1);
        appendMany(x, 0, DELETED, others);
        return x;
    }

    private static void searchForAll(MailViews x) {
        x.criterion(ALL, 0, 0);
        x.search(0);
    }

    private static void viewHasAtMost24() {
        due.in("a view has at most 24");
        MailViews x = afterTwelveGone(12);
        searchForAll(x);
        dueNotices(x, 0, EXISTS, 24);
        due.is("the last", x.seen(0, 24, 0), 24);
        due.is("behind the last", x.seen(0, 25, 0), REFUSED);
        x.expunge(1);
        x.append(0, 0, 1);
        searchForAll(x);
        dueNotices(x, 0);
        due.is("the last", x.seen(0, 24, 0), 24);
        due.is("behind the last", x.seen(0, 25, 0), REFUSED);
        due.is("fetch behind the last", x.fetch(0, 25), REFUSED);
        due.is("the last is gone", x.fetch(0, 24), GONE);
    }

    private static void asManyAsThereIsRoomFor() {
        due.in("in order, as many as there is room for");
        MailViews x = afterTwelveGone(10);
        searchForAll(x);
        dueNotices(x, 0, EXISTS, 22);
        x.expunge(1);
        appendMany(x, 0, MARKED, 4);
        searchForAll(x);
        dueNotices(x, 0, EXISTS, 24);
        due.is("number 23", x.seen(0, 23, 0), 23);
        due.is("number 24", x.seen(0, 24, 0), 24);
        due.is("known of 24", x.seen(0, 24, 1), MARKED);
        searchForAll(x);
        dueNotices(x, 0);
        dueFound(x, 23, 24);
    }

    private static void roomOnceTheGoneHaveLeft() {
        due.in("as many as there is room for: those that were left out come when there is room");
        MailViews x = afterTwelveGone(12);
        searchForAll(x);
        x.expunge(1);
        appendMany(x, 0, SEEN, 12);
        searchForAll(x);
        dueFound(x);
        due.is("24 leave, twelve come", x.check(0), 25);
        for (int k = 0; k < 24; k++) {
            due.is("kind of " + k, x.notice(0, k, 0), EXPUNGED);
            due.is("number of " + k, x.notice(0, k, 1), 1);
        }
        due.is("the last kind", x.notice(0, 24, 0), EXISTS);
        due.is("the last number", x.notice(0, 24, 1), 12);
        due.is("behind the last", x.notice(0, 25, 0), REFUSED);
        dueView(x, 0, 25, 26, 27, 28, 29, 30, 31, 32, 33, 34, 35, 36);
    }

    private static void flaggedInOrder() {
        due.in("For each message of the view that the mailbox has, in order, with other flags than are known");
        MailViews x = new MailViews();
        appendMany(x, 0, 0, 12);
        x.select(0, 0, true);
        x.select(1, 0, false);
        x.store(1, 12, 0, SEEN);
        x.store(1, 1, 0, DRAFT);
        x.store(1, 7, 0, MARKED);
        due.is("check", x.check(0), 3);
        dueNotices(x, 0, FLAGGED, 1, FLAGGED, 7, FLAGGED, 12);
        dueKnown(x, 0, DRAFT, 0, 0, 0, 0, 0, MARKED, 0, 0, 0, 0, SEEN);
        due.is("they are known now", x.check(0), 0);
    }

    private static void flaggedOnlyWithOtherFlags() {
        due.in("with other flags than are known");
        MailViews x = withMessages(SEEN, SEEN, SEEN);
        x.select(0, 0, false);
        x.select(1, 0, false);
        x.store(1, 1, 0, MARKED);
        x.store(1, 1, 0, SEEN);
        x.store(1, 2, 0, SEEN);
        x.store(1, 3, 0, DRAFT);
        x.fetch(0, 3);
        due.is("set back, set to the same, fetched", x.check(0), 0);
        due.is("its own", x.store(0, 2, 0, 31), 31);
        dueNotices(x, 0);
        due.is("the other's", x.check(1), 1);
        dueNotices(x, 1, FLAGGED, 2);
    }

    private static void noFlaggedForOneGoneOrNew() {
        due.in("each message of the view that the mailbox has; new ones known with their flags as they are");
        MailViews x = withMessages(0, 0);
        x.select(0, 0, false);
        x.select(1, 0, false);
        x.store(1, 2, 0, DELETED | MARKED);
        x.append(0, 0, 1);
        x.check(1);
        due.is("a new one has other flags now", x.store(1, 3, 0, DRAFT), DRAFT);
        x.expunge(1);
        due.is("store", x.store(0, 1, 0, 0), 0);
        dueNotices(x, 0, EXISTS, 3);
        dueKnown(x, 0, 0, 0, DRAFT);
    }

    private static void flaggedWithTheNumberAfterRemovals() {
        due.in("FLAGGED with the sequence number, behind EXPUNGED and EXISTS");
        MailViews x = withMessages(DELETED, 0, DELETED, 0);
        x.select(0, 0, false);
        x.select(1, 0, false);
        x.expunge(1);
        x.store(1, 2, 0, SEEN);
        x.append(0, 0, 1);
        due.is("check", x.check(0), 4);
        dueNotices(x, 0, EXPUNGED, 1, EXPUNGED, 2, EXISTS, 3, FLAGGED, 2);
    }

    private static void atMostFourteenTokens() {
        due.in("The row being written has at most 14 tokens");
        MailViews x = new MailViews();
        for (int many = 1; many <= 14; many++) {
            due.is("token " + many, x.criterion(many % 9, many, many), many);
            due.is("count(2)", x.count(2), many);
        }
        due.is("token 15", x.criterion(ALL, 0, 0), FULL);
        due.is("again", x.criterion(EITHER, 0, 0), FULL);
        due.is("count(2)", x.count(2), 14);
    }

    private static void fourteenAgainAfterSearch() {
        due.in("The row has at most 14 tokens, and is empty after a search");
        MailViews x = withMessages(0, SEEN);
        x.select(0, 0, true);
        for (int round = 0; round < 2; round++) {
            write(x, NOT, BOTH, BOTH, BOTH, ALL, ALL, BOTH, ALL, ALL, EITHER, ALL, EITHER, ALL);
            due.is("token 14", x.criterion(HAS, SEEN, 0), 14);
            due.is("token 15", x.criterion(ALL, 0, 0), FULL);
            dueSearch(x, 0);
            due.is("count(2)", x.count(2), 0);
        }
        write(x, BOTH, BOTH, BOTH, ALL, ALL, BOTH, ALL, ALL, BOTH, NOT, NOT, ALL, ALL);
        due.is("one part more than asked for", x.criterion(ALL, 0, 0), 14);
        due.is("search", x.search(0), WRONG);
        write(x, BOTH, BOTH, BOTH, ALL, ALL, BOTH, ALL, ALL, BOTH, NOT, NOT, ALL, NOT);
        due.is("the last token counts", x.criterion(HAS, SEEN, 0), 14);
        dueSearch(x, 0, 1);
        write(x, BOTH, BOTH, BOTH, ALL, ALL, BOTH, ALL, ALL, BOTH, NOT, NOT, ALL, NOT);
        due.is("a fifteenth would be asked for", x.criterion(NOT, 0, 0), 14);
        due.is("search", x.search(0), WRONG);
    }

    private static void anEmptyRowIsNotGood() {
        due.in("GOOD if it is just one criterion: an empty row is none");
        MailViews x = withMessages(0);
        x.select(0, 0, false);
        dueWrong(x);
        x.criterion(ALL, 0, 0);
        dueSearch(x, 0, 1);
        dueWrong(x);
    }

    private static void justOneCriterion() {
        due.in("it is GOOD if it is just one criterion");
        MailViews x = withMessages(0);
        x.select(0, 0, false);
        for (int op = ALL; op <= NUMBERS; op++) {
            dueWrong(x, op, ALL);
            dueWrong(x, ALL, op);
            dueWrong(x, NOT, op, ALL);
            dueWrong(x, BOTH, ALL, op, ALL);
            dueWrong(x, EITHER, op, ALL, ALL);
        }
        dueWrong(x, ALL, NOT);
        dueWrong(x, ALL, NOT, ALL);
        dueWrong(x, ALL, ALL, BOTH);
        dueWrong(x, NOT, ALL, NOT, ALL);
        dueWrong(x, ALL, ALL, ALL, ALL, ALL, ALL, ALL, ALL, ALL, ALL, ALL, ALL, ALL, ALL);
        write(x, BOTH, ALL, ALL);
        dueSearch(x, 0, 1);
    }

    private static void aLackingPart() {
        due.in("a token and behind it its parts: NOT 6, one part; BOTH 7, EITHER 8, two parts");
        MailViews x = withMessages(0);
        x.select(0, 0, false);
        dueWrong(x, NOT);
        dueWrong(x, NOT, NOT);
        for (int two = BOTH; two <= EITHER; two++) {
            dueWrong(x, two);
            dueWrong(x, two, ALL);
            dueWrong(x, two, NOT, ALL);
            dueWrong(x, two, ALL, NOT);
            dueWrong(x, two, two, ALL, ALL);
            dueWrong(x, two, ALL, two, ALL);
            write(x, two, ALL, ALL);
            dueSearch(x, 0, 1);
        }
        write(x, NOT, ALL);
        dueSearch(x, 0);
    }

    /** Writes one criterion of so many tokens, none of them deep inside; at most the first `most` are written. */
    private static void writeOneOf(MailViews x, int tokens, int most) {
        if (most <= 0) {
            return;
        }
        if (tokens <= 2) {
            write(x, tokens == 2 && most >= 2 ? new int[] {NOT, ALL} : new int[] {tokens == 2 ? NOT : ALL});
            return;
        }
        int first = (tokens - 1) / 2;
        write(x, BOTH);
        writeOneOf(x, first, most - 1);
        writeOneOf(x, tokens - 1 - first, most - 1 - first);
    }

    private static void rowsOfEveryLength() {
        due.in("just one criterion, in rows of 1 to 14 tokens");
        MailViews x = withMessages(0);
        x.select(0, 0, false);
        for (int tokens = 1; tokens <= 14; tokens++) {
            writeOneOf(x, tokens, tokens);
            due.is("tokens", x.count(2), tokens);
            due.holds("one criterion of " + tokens + " is good", x.search(0) >= 0);
            writeOneOf(x, tokens + 1, tokens);
            due.is("tokens", x.count(2), tokens);
            due.is("the last of " + (tokens + 1) + " is lacking", x.search(0), WRONG);
            writeOneOf(x, tokens - 1, tokens - 1);
            write(x, ALL);
            due.is("tokens", x.count(2), tokens);
            due.is("one behind " + (tokens - 1), x.search(0), tokens == 1 ? 1 : WRONG);
        }
    }

    private static void insideOfFive() {
        due.in("no token inside of more than 5 others: five are well");
        MailViews x = withMessages(0);
        x.select(0, 0, false);
        write(x, NOT, NOT, NOT, NOT, NOT, ALL);
        dueSearch(x, 0);
        for (int two = BOTH; two <= EITHER; two++) {
            write(x, two, two, two, two, two, ALL, ALL, ALL, ALL, ALL, ALL);
            dueSearch(x, 0, 1);
            write(x, two, ALL, two, ALL, two, ALL, two, ALL, two, ALL, ALL);
            dueSearch(x, 0, 1);
            write(x, two, NOT, NOT, NOT, NOT, ALL, ALL);
            dueSearch(x, 0, 1);
            write(x, two, ALL, NOT, NOT, NOT, NOT, ALL);
            dueSearch(x, 0, 1);
        }
    }

    private static void insideOfSix() {
        due.in("no token inside of more than 5 others: six are not good");
        MailViews x = withMessages(0);
        x.select(0, 0, false);
        dueWrong(x, NOT, NOT, NOT, NOT, NOT, NOT, ALL);
        dueWrong(x, NOT, NOT, NOT, NOT, NOT, NOT, NOT, NOT, NOT, NOT, NOT, NOT, NOT, ALL);
        for (int two = BOTH; two <= EITHER; two++) {
            dueWrong(x, two, two, two, two, two, two, ALL, ALL, ALL, ALL, ALL, ALL, ALL);
            dueWrong(x, two, ALL, two, ALL, two, ALL, two, ALL, two, ALL, two, ALL, ALL);
            dueWrong(x, two, NOT, NOT, NOT, NOT, NOT, ALL, ALL);
            dueWrong(x, two, ALL, NOT, NOT, NOT, NOT, NOT, ALL);
            dueWrong(x, NOT, two, ALL, two, NOT, NOT, NOT, ALL, ALL);
        }
    }

    private static void dueHits(MailViews x, int op, int a, int b, int... numbers) {
        x.criterion(op, a, b);
        dueSearch(x, 0, numbers);
    }

    private static void hasSomeFlag() {
        due.in("HAS 1: some flag of a");
        MailViews x = withMessages(0, SEEN, DRAFT, SEEN | ANSWERED, 31);
        x.select(0, 0, true);
        dueHits(x, HAS, 0, 0);
        dueHits(x, HAS, 0, 31);
        dueHits(x, HAS, SEEN, 0, 2, 4, 5);
        dueHits(x, HAS, DRAFT, 0, 3, 5);
        dueHits(x, HAS, SEEN | DRAFT, 0, 2, 3, 4, 5);
        dueHits(x, HAS, ANSWERED | DELETED, 0, 4, 5);
        dueHits(x, HAS, 31, 0, 2, 3, 4, 5);
        dueHits(x, HAS, 32, 0);
        dueHits(x, HAS, 33, 0, 2, 4, 5);
        dueHits(x, HAS, -1, 0, 2, 3, 4, 5);
        dueHits(x, HAS, LEAST, 0);
        dueHits(x, HAS, MOST, 0, 2, 3, 4, 5);
    }

    private static void sizesAboveAndBelow() {
        due.in("LARGER 2: size above a; SMALLER 3: size below a");
        MailViews x = new MailViews();
        x.append(0, 0, 1);
        x.append(0, 0, 500);
        x.append(0, 0, 999);
        x.select(0, 0, true);
        dueHits(x, LARGER, 0, 0, 1, 2, 3);
        dueHits(x, LARGER, 1, 0, 2, 3);
        dueHits(x, LARGER, 499, 0, 2, 3);
        dueHits(x, LARGER, 500, 0, 3);
        dueHits(x, LARGER, 998, 0, 3);
        dueHits(x, LARGER, 999, 0);
        dueHits(x, LARGER, MOST, 0);
        dueHits(x, LARGER, LEAST, 0, 1, 2, 3);
        dueHits(x, SMALLER, 1, 999);
        dueHits(x, SMALLER, 2, 0, 1);
        dueHits(x, SMALLER, 500, 0, 1);
        dueHits(x, SMALLER, 501, 0, 1, 2);
        dueHits(x, SMALLER, 999, 0, 1, 2);
        dueHits(x, SMALLER, 1000, 0, 1, 2, 3);
        dueHits(x, SMALLER, MOST, 0, 1, 2, 3);
        dueHits(x, SMALLER, LEAST, 0);
    }

    /** UIDs 2, 3, 4, 5 bear the numbers 1, 2, 3, 4. */
    private static void fromAToB() {
        due.in("UIDS 4: from a to b; NUMBERS 5: sequence number from a to b");
        MailViews x = withMessages(DELETED, 0, 0, 0, 0);
        x.select(0, 0, false);
        x.expunge(0);
        dueHits(x, UIDS, 3, 4, 2, 3);
        dueHits(x, UIDS, 2, 2, 1);
        dueHits(x, UIDS, 5, 5, 4);
        dueHits(x, UIDS, 1, 1);
        dueHits(x, UIDS, 6, MOST);
        dueHits(x, UIDS, 4, 3);
        dueHits(x, UIDS, LEAST, 2, 1);
        dueHits(x, UIDS, 5, MOST, 4);
        dueHits(x, UIDS, LEAST, MOST, 1, 2, 3, 4);
        dueHits(x, UIDS, MOST, LEAST);
        dueHits(x, NUMBERS, 2, 3, 2, 3);
        dueHits(x, NUMBERS, 1, 1, 1);
        dueHits(x, NUMBERS, 4, 4, 4);
        dueHits(x, NUMBERS, 0, 0);
        dueHits(x, NUMBERS, 5, MOST);
        dueHits(x, NUMBERS, 3, 2);
        dueHits(x, NUMBERS, LEAST, 1, 1);
        dueHits(x, NUMBERS, 4, MOST, 4);
        dueHits(x, NUMBERS, LEAST, MOST, 1, 2, 3, 4);
        dueHits(x, NUMBERS, MOST, LEAST);
    }

    private static void notBothEither() {
        due.in("NOT 6, BOTH 7, EITHER 8");
        MailViews x = withMessages(0, SEEN, DRAFT, SEEN | DRAFT);
        x.select(0, 0, true);
        x.criterion(NOT, -1, -1);
        dueHits(x, HAS, SEEN, 0, 1, 3);
        x.criterion(BOTH, -1, -1);
        x.criterion(HAS, SEEN, 0);
        dueHits(x, HAS, DRAFT, 0, 4);
        x.criterion(EITHER, -1, -1);
        x.criterion(HAS, SEEN, 0);
        dueHits(x, HAS, DRAFT, 0, 2, 3, 4);
        x.criterion(BOTH, 0, 0);
        x.criterion(NOT, 0, 0);
        x.criterion(HAS, SEEN, 0);
        dueHits(x, HAS, DRAFT, 0, 3);
        x.criterion(EITHER, 0, 0);
        x.criterion(BOTH, 0, 0);
        x.criterion(HAS, SEEN, 0);
        x.criterion(NUMBERS, 1, 2);
        x.criterion(NOT, 0, 0);
        dueHits(x, HAS, 31, 0, 1, 2);
    }
}
