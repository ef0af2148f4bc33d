/** One method for each promise: ordinary inputs, the edges that the document names, wrong inputs. */
public final class PromisesTest extends TestBase {
    public static void main(String[] args) {
        newObject();
        append();
        select();
        selectInPlaceOfAnother();
        close();
        check();
        checkTellsInOrder();
        fetch();
        store();
        storeRefuses();
        expunge();
        copy();
        copyRefuses();
        criterion();
        search();
        searchLeaves();
        searchUpdatesAfterwards();
        searchJoins();
        searchIsWrong();
        found();
        sync();
        eighthChangeMakesDurable();
        crash();
        crashTakesBackInEachMailbox();
        crashLeavesTheRest();
        message();
        seen();
        notice();
        mailbox();
        count();
        viewIsFull();
        viewForgetsNoUid();
        due.end();
    }

    private static void newObject() {
        due.in("1 a new object");
        MailViews x = new MailViews();
        for (int m = 0; m < 3; m++) {
            due.is("messages of " + m, x.mailbox(m, 0), 0);
            due.is("next UID of " + m, x.mailbox(m, 1), 1);
            due.is("validity of " + m, x.mailbox(m, 2), 1);
            due.is("sessions of " + m, x.mailbox(m, 3), 0);
            due.is("first message of " + m, x.message(m, 0, 0), REFUSED);
        }
        for (int s = 0; s < 4; s++) {
            due.is("check(" + s + ")", x.check(s), REFUSED);
            due.is("seen(" + s + ", 1, 0)", x.seen(s, 1, 0), REFUSED);
            due.is("notice(" + s + ", 0, 0)", x.notice(s, 0, 0), REFUSED);
        }
        for (int what = 0; what < 4; what++) {
            due.is("count(" + what + ")", x.count(what), 0);
        }
        due.is("found(0)", x.found(0), REFUSED);
        new MailViews().append(0, 0, 1);
        due.is("another object shares nothing", x.mailbox(0, 0), 0);
    }

    private static void append() {
        due.in("2 append");
        MailViews x = new MailViews();
        due.is("append(0, 0, 1)", x.append(0, 0, 1), 1);
        due.is("append(0, 31, 999)", x.append(0, 31, 999), 2);
        due.is("append(2, 5, 7)", x.append(2, 5, 7), 1);
        dueMessage(x, 0, 0, 1, 0, 1);
        dueMessage(x, 0, 1, 2, 31, 999);
        dueMessage(x, 2, 0, 1, 5, 7);
        for (int m : NO_MAILBOXES) {
            due.is("append(" + m + ", 0, 1)", x.append(m, 0, 1), REFUSED);
        }
        for (int flags : new int[] {-1, 32, LEAST, MOST}) {
            due.is("append(0, " + flags + ", 1)", x.append(0, flags, 1), REFUSED);
        }
        for (int size : new int[] {0, -1, 1000, LEAST, MOST}) {
            due.is("append(0, 0, " + size + ")", x.append(0, 0, size), REFUSED);
        }
        due.is("refused calls are no changes", x.count(0), 3);
        appendMany(x, 0, 0, 9);
        due.is("the twelfth", x.append(0, 0, 1), 12);
        due.is("the thirteenth", x.append(0, 0, 1), FULL);
        due.is("out of range is tested first", x.append(0, 0, 0), REFUSED);
        due.is("FULL takes no UID", x.mailbox(0, 1), 13);
        due.is("FULL is no change", x.count(0), 13);
        due.is("the other mailbox has room", x.append(1, 0, 1), 1);
    }

    private static void select() {
        due.in("3 select");
        MailViews x = withMessages(SEEN, DRAFT);
        due.is("select(3, 0, true)", x.select(3, 0, true), 2);
        due.is("select(2, 1, false)", x.select(2, 1, false), 0);
        dueView(x, 3, 1, 2);
        due.is("known of 1", x.seen(3, 1, 1), SEEN);
        due.is("known of 2", x.seen(3, 2, 1), DRAFT);
        dueNotices(x, 3);
        due.is("sessions that have 0", x.mailbox(0, 3), 1);
        for (int s : NO_SESSIONS) {
            due.is("select(" + s + ", 0, true)", x.select(s, 0, true), REFUSED);
        }
        for (int m : NO_MAILBOXES) {
            due.is("select(3, " + m + ", false)", x.select(3, m, false), REFUSED);
        }
        due.is("a refused select leaves it to read only", x.expunge(3), READ_ONLY);
        due.is("a refused select leaves the view", x.seen(3, 2, 0), 2);
    }

    private static void selectInPlaceOfAnother() {
        due.in("3 select in place of another");
        MailViews x = withMessages(DELETED, 0);
        x.select(0, 0, true);
        due.is("again, not to read only", x.select(0, 0, false), 2);
        due.is("store", x.store(0, 2, 0, SEEN), SEEN);
        x.append(0, 0, 5);
        due.is("check", x.check(0), 1);
        due.is("to another mailbox", x.select(0, 1, false), 0);
        due.is("select removes nothing", x.mailbox(0, 0), 3);
        dueNotices(x, 0);
        dueView(x, 0);
        due.is("sessions of the old one", x.mailbox(0, 3), 0);
        due.is("sessions of the new one", x.mailbox(1, 3), 1);
        x.append(1, MARKED, 5);
        due.is("UIDs of the old view do not count", x.check(0), 1);
        dueNotices(x, 0, EXISTS, 1);
        due.is("again", x.select(0, 0, false), 3);
        dueView(x, 0, 1, 2, 3);
        dueNotices(x, 0);
    }

    private static void close() {
        due.in("4 close");
        MailViews x = withMessages(DELETED, 0, DELETED | SEEN, MARKED);
        x.select(0, 0, false);
        x.select(1, 0, true);
        due.is("to read only", x.close(1), 0);
        due.is("nothing was removed", x.mailbox(0, 0), 4);
        due.is("again", x.close(1), REFUSED);
        x.select(1, 0, true);
        due.is("not to read only", x.close(0), 2);
        dueMessage(x, 0, 0, 2, 0, 20);
        dueMessage(x, 0, 1, 4, MARKED, 40);
        due.is("messages left", x.mailbox(0, 0), 2);
        due.is("two removals are two changes", x.count(0), 6);
        due.is("the other session has it still", x.mailbox(0, 3), 1);
        dueView(x, 1, 1, 2, 3, 4);
        due.is("the closed one has none", x.check(0), REFUSED);
        due.is("the closed one sees nothing", x.seen(0, 1, 0), REFUSED);
        due.is("the next UID stays", x.append(0, 0, 1), 5);
        for (int s : NO_SESSIONS) {
            due.is("close(" + s + ")", x.close(s), REFUSED);
        }
    }

    private static void check() {
        due.in("5 check");
        MailViews x = withMessages(0, DELETED, 0);
        x.select(0, 0, false);
        x.select(1, 0, true);
        due.is("nothing new", x.check(0), 0);
        x.expunge(0);
        x.append(0, 0, 4);
        x.append(0, SEEN, 5);
        dueView(x, 1, 1, 2, 3);
        due.is("a session to read only is told too", x.check(1), 2);
        dueNotices(x, 1, EXPUNGED, 2, EXISTS, 4);
        dueView(x, 1, 1, 3, 4, 5);
        due.is("known of the new one", x.seen(1, 4, 1), SEEN);
        due.is("told in place of those before", x.check(1), 0);
        dueNotices(x, 1);
        due.is("without a mailbox", x.check(2), REFUSED);
        for (int s : NO_SESSIONS) {
            due.is("check(" + s + ")", x.check(s), REFUSED);
        }
    }

    private static void checkTellsInOrder() {
        due.in("5 check tells in order");
        MailViews x = withMessages(DELETED, DELETED, 0, DELETED, SEEN, DELETED);
        x.select(0, 0, false);
        x.select(1, 0, false);
        x.expunge(1);
        x.store(1, 2, 0, ANSWERED);
        x.store(1, 1, 1, MARKED);
        x.append(0, 0, 9);
        due.is("check", x.check(0), 7);
        dueNotices(x, 0, EXPUNGED, 1, EXPUNGED, 1, EXPUNGED, 2, EXPUNGED, 3, EXISTS, 3, FLAGGED, 1, FLAGGED, 2);
        due.is("known of 1", x.seen(0, 1, 1), MARKED);
        due.is("known of 2", x.seen(0, 2, 1), ANSWERED);
        dueView(x, 0, 3, 5, 7);
    }

    private static void fetch() {
        due.in("6 fetch");
        MailViews x = withMessages(0, DELETED, SEEN);
        x.select(0, 0, true);
        x.select(1, 0, false);
        x.store(1, 1, 0, MARKED);
        x.store(1, 3, 0, DRAFT);
        due.is("fetch(0, 1)", x.fetch(0, 1), MARKED);
        due.is("it is known then", x.seen(0, 1, 1), MARKED);
        due.is("the others are not", x.seen(0, 3, 1), SEEN);
        x.check(0);
        dueNotices(x, 0, FLAGGED, 3);
        x.append(0, 0, 1);
        x.expunge(1);
        due.is("a message gone", x.fetch(0, 2), GONE);
        due.is("what is known of it stays", x.seen(0, 2, 1), DELETED);
        dueNotices(x, 0, FLAGGED, 3);
        due.is("fetch does not update", x.fetch(0, 4), REFUSED);
        dueView(x, 0, 1, 2, 3);
        due.is("fetch is no change", x.count(0), 7);
        for (int number : new int[] {0, -1, 4, LEAST, MOST}) {
            due.is("fetch(0, " + number + ")", x.fetch(0, number), REFUSED);
        }
        due.is("without a mailbox", x.fetch(2, 1), REFUSED);
        for (int s : NO_SESSIONS) {
            due.is("fetch(" + s + ", 1)", x.fetch(s, 1), REFUSED);
        }
    }

    private static void store() {
        due.in("7 store");
        MailViews x = withMessages(SEEN, DELETED, 0);
        x.select(0, 0, false);
        x.select(1, 0, false);
        due.is("mode 0", x.store(0, 1, 0, 6), 6);
        due.is("mode 1", x.store(0, 1, 1, 3), 7);
        due.is("mode 2", x.store(0, 1, 2, 18), 5);
        due.is("to what they were", x.store(0, 1, 1, 0), 5);
        due.is("that is a change too", x.count(0), 7);
        due.is("the mailbox has them", x.message(0, 0, 1), 5);
        due.is("they are known", x.seen(0, 1, 1), 5);
        dueNotices(x, 0);
        x.expunge(1);
        x.store(1, 2, 0, MARKED);
        x.append(0, DRAFT, 9);
        due.is("the session is updated", x.store(0, 1, 0, 0), 0);
        dueNotices(x, 0, EXISTS, 4, FLAGGED, 3);
        dueView(x, 0, 1, 2, 3, 4);
        due.is("the flags of another", x.seen(0, 3, 1), MARKED);
        due.is("a message gone", x.store(0, 2, 0, 0), GONE);
        dueNotices(x, 0, EXISTS, 4, FLAGGED, 3);
    }

    private static void storeRefuses() {
        due.in("7 store refuses");
        MailViews x = withMessages(DELETED, SEEN);
        x.select(0, 0, true);
        x.select(1, 0, false);
        due.is("to read only", x.store(0, 2, 0, 0), READ_ONLY);
        due.is("the number is tested before", x.store(0, 3, 0, 0), REFUSED);
        due.is("the mode is tested before", x.store(0, 2, 3, 0), REFUSED);
        due.is("the flags are tested before", x.store(0, 2, 0, 32), REFUSED);
        x.expunge(1);
        due.is("READ_ONLY before GONE", x.store(0, 1, 0, 0), READ_ONLY);
        dueView(x, 0, 1, 2);
        for (int mode : new int[] {-1, 3, LEAST, MOST}) {
            due.is("mode " + mode, x.store(1, 1, mode, 0), REFUSED);
        }
        for (int flags : new int[] {-1, 32, LEAST, MOST}) {
            for (int mode = 0; mode <= 2; mode++) {
                due.is("flags " + flags, x.store(1, 1, mode, flags), REFUSED);
            }
        }
        for (int number : new int[] {0, -1, 2, LEAST, MOST}) {
            due.is("number " + number, x.store(1, number, 0, 0), REFUSED);
        }
        for (int s : NO_SESSIONS) {
            due.is("session " + s, x.store(s, 1, 0, 0), REFUSED);
        }
        due.is("without a mailbox", x.store(2, 1, 0, 0), REFUSED);
        due.is("nothing was set", x.count(0), 3);
        due.is("the flags are as they were", x.message(0, 0, 1), SEEN);
    }

    private static void expunge() {
        due.in("8 expunge");
        MailViews x = withMessages(DELETED, 0, 31, DELETED);
        x.append(1, DELETED, 3);
        x.select(0, 0, false);
        x.select(1, 0, true);
        due.is("to read only", x.expunge(1), READ_ONLY);
        x.append(0, DELETED, 50);
        x.append(0, SEEN, 60);
        due.is("expunge(0)", x.expunge(0), 4);
        dueNotices(x, 0, EXPUNGED, 1, EXPUNGED, 2, EXPUNGED, 2, EXISTS, 2);
        dueView(x, 0, 2, 6);
        dueMessage(x, 0, 0, 2, 0, 20);
        dueMessage(x, 0, 1, 6, SEEN, 60);
        due.is("messages left", x.mailbox(0, 0), 2);
        due.is("the other mailbox keeps its own", x.mailbox(1, 0), 1);
        due.is("changes", x.count(0), 11);
        dueView(x, 1, 1, 2, 3, 4);
        due.is("none to remove", x.expunge(0), 0);
        dueNotices(x, 0);
        due.is("without a mailbox", x.expunge(2), REFUSED);
        for (int s : NO_SESSIONS) {
            due.is("expunge(" + s + ")", x.expunge(s), REFUSED);
        }
    }

    private static void copy() {
        due.in("9 copy");
        MailViews x = withMessages(SEEN, DELETED | DRAFT, DELETED);
        x.select(0, 0, true);
        x.select(1, 0, false);
        due.is("to another mailbox, from one to read only", x.copy(0, 2, 1), 1);
        dueMessage(x, 1, 0, 1, DELETED | DRAFT, 20);
        dueNotices(x, 0);
        due.is("to this one", x.copy(0, 1, 0), 4);
        dueMessage(x, 0, 3, 4, SEEN, 10);
        dueNotices(x, 0, EXISTS, 4);
        due.is("the source stays", x.mailbox(0, 0), 4);
        due.is("changes", x.count(0), 5);
        x.store(1, 1, 0, MARKED);
        due.is("flags as the mailbox has them", x.copy(0, 1, 2), 1);
        dueMessage(x, 2, 0, 1, MARKED, 10);
        dueNotices(x, 0, FLAGGED, 1);
        x.expunge(1);
        due.is("updated with removals", x.copy(0, 1, 1), 2);
        dueNotices(x, 0, EXPUNGED, 2, EXPUNGED, 2);
        dueView(x, 0, 1, 4);
    }

    private static void copyRefuses() {
        due.in("9 copy refuses");
        MailViews x = withMessages(DELETED, SEEN);
        x.select(0, 0, false);
        x.select(1, 0, false);
        appendMany(x, 1, 0, 12);
        x.expunge(1);
        x.append(0, 0, 1);
        due.is("GONE", x.copy(0, 1, 2), GONE);
        due.is("GONE before FULL", x.copy(0, 1, 1), GONE);
        due.is("FULL", x.copy(0, 2, 1), FULL);
        due.is("changes", x.count(0), 16);
        due.is("the next UID stays", x.mailbox(1, 1), 13);
        dueView(x, 0, 1, 2);
        for (int m : NO_MAILBOXES) {
            due.is("copy(0, 2, " + m + ")", x.copy(0, 2, m), REFUSED);
            due.is("the range is tested before GONE", x.copy(0, 1, m), REFUSED);
        }
        for (int number : new int[] {0, -1, 3, LEAST, MOST}) {
            due.is("copy(0, " + number + ", 2)", x.copy(0, number, 2), REFUSED);
        }
        for (int s : NO_SESSIONS) {
            due.is("copy(" + s + ", 1, 2)", x.copy(s, 1, 2), REFUSED);
        }
        due.is("without a mailbox", x.copy(2, 1, 2), REFUSED);
        due.is("nothing was copied", x.mailbox(2, 0), 0);
    }

    private static void criterion() {
        due.in("10 criterion");
        MailViews x = new MailViews();
        for (int op = 0; op <= 8; op++) {
            due.is("op " + op, x.criterion(op, LEAST, MOST), op + 1);
        }
        for (int op : new int[] {-1, 9, LEAST, MOST}) {
            due.is("op " + op, x.criterion(op, 0, 0), REFUSED);
        }
        for (int tokens = 10; tokens <= 14; tokens++) {
            due.is("token " + tokens, x.criterion(0, 0, 0), tokens);
        }
        due.is("token 15", x.criterion(0, 0, 0), FULL);
        due.is("the op is tested before", x.criterion(9, 0, 0), REFUSED);
        due.is("count(2)", x.count(2), 14);
    }

    private static void search() {
        due.in("11 search");
        MailViews x = withMessages(0, SEEN, DELETED, SEEN | DRAFT, MARKED);
        x.select(1, 0, false);
        x.expunge(1);
        x.select(0, 0, true);
        x.criterion(0, 0, 0);
        dueSearch(x, 0, 1, 2, 3, 4);
        due.is("the row is empty", x.count(2), 0);
        x.criterion(1, SEEN | MARKED, 0);
        dueSearch(x, 0, 2, 3, 4);
        x.criterion(1, -1, 0);
        dueSearch(x, 0, 2, 3, 4);
        x.criterion(1, 0, 31);
        dueSearch(x, 0);
        x.criterion(1, 32, 0);
        dueSearch(x, 0);
        x.criterion(2, 20, 0);
        dueSearch(x, 0, 3, 4);
        x.criterion(2, LEAST, 0);
        dueSearch(x, 0, 1, 2, 3, 4);
        x.criterion(3, 20, 0);
        dueSearch(x, 0, 1);
        x.criterion(3, MOST, 0);
        dueSearch(x, 0, 1, 2, 3, 4);
        x.criterion(4, 2, 4);
        dueSearch(x, 0, 2, 3);
        x.criterion(4, 4, 2);
        dueSearch(x, 0);
        x.criterion(5, 2, 3);
        dueSearch(x, 0, 2, 3);
        x.criterion(5, 4, 4);
        dueSearch(x, 0, 4);
        x.criterion(5, LEAST, MOST);
        dueSearch(x, 0, 1, 2, 3, 4);
        due.is("search is no change", x.count(0), 6);
    }

    private static void searchLeaves() {
        due.in("11 search, refused");
        MailViews x = withMessages(0);
        x.select(0, 0, false);
        x.criterion(0, 0, 0);
        due.is("without a mailbox", x.search(1), REFUSED);
        for (int s : NO_SESSIONS) {
            due.is("search(" + s + ")", x.search(s), REFUSED);
        }
        due.is("the row stays", x.count(2), 1);
        dueSearch(x, 0, 1);
        x.criterion(6, 0, 0);
        due.is("not good without a mailbox", x.search(1), REFUSED);
        due.is("the row stays", x.count(2), 1);
    }

    private static void searchUpdatesAfterwards() {
        due.in("11 search updates afterwards");
        MailViews x = withMessages(0, DELETED, 0, SEEN);
        x.select(0, 0, true);
        x.select(1, 0, false);
        x.expunge(1);
        x.store(1, 2, 0, SEEN);
        x.append(0, SEEN, 5);
        x.criterion(1, SEEN, 0);
        dueSearch(x, 0, 3, 4);
        dueNotices(x, 0, EXISTS, 5, FLAGGED, 3);
        dueView(x, 0, 1, 2, 3, 4, 5);
        x.criterion(0, 0, 0);
        dueSearch(x, 0, 1, 3, 4, 5);
        dueNotices(x, 0);
        x.criterion(6, 0, 0);
        x.criterion(5, 1, 3);
        dueSearch(x, 0, 4, 5);
        x.append(0, 0, 6);
        due.is("WRONG", x.search(0), WRONG);
        dueView(x, 0, 1, 2, 3, 4, 5);
        x.check(0);
        dueFound(x, 4, 5);
    }

    private static void searchJoins() {
        due.in("11 search joins");
        MailViews x = withMessages(0, SEEN, MARKED, SEEN | MARKED);
        x.select(0, 0, true);
        x.criterion(7, 0, 0);
        x.criterion(1, SEEN, 0);
        x.criterion(1, MARKED, 0);
        dueSearch(x, 0, 4);
        x.criterion(8, 0, 0);
        x.criterion(1, SEEN, 0);
        x.criterion(1, MARKED, 0);
        dueSearch(x, 0, 2, 3, 4);
        x.criterion(6, 0, 0);
        x.criterion(1, SEEN, 0);
        dueSearch(x, 0, 1, 3);
        x.criterion(7, 0, 0);
        x.criterion(8, 0, 0);
        x.criterion(5, 1, 1);
        x.criterion(6, 0, 0);
        x.criterion(1, MARKED, 0);
        x.criterion(6, 0, 0);
        x.criterion(4, 1, 1);
        dueSearch(x, 0, 2);
        x.criterion(8, 0, 0);
        x.criterion(7, 0, 0);
        x.criterion(1, SEEN, 0);
        x.criterion(2, 30, 0);
        x.criterion(3, 15, 0);
        dueSearch(x, 0, 1, 4);
    }

    private static void searchIsWrong() {
        due.in("11 search is wrong");
        MailViews x = withMessages(0);
        x.select(0, 0, true);
        dueWrong(x);
        dueWrong(x, 0, 0);
        dueWrong(x, 6);
        dueWrong(x, 7);
        dueWrong(x, 7, 0);
        dueWrong(x, 8, 0);
        dueWrong(x, 7, 0, 0, 0);
        dueWrong(x, 6, 0, 0);
        dueWrong(x, 7, 7, 0, 0);
        dueWrong(x, 6, 6, 6, 6, 6, 6, 0);
        dueWrong(x, 7, 0, 6, 6, 6, 6, 6, 0);
        dueWrong(x, 8, 6, 6, 6, 6, 6, 0, 0);
        dueWrong(x, 7, 7, 7, 7, 7, 7, 0, 0, 0, 0, 0, 0, 0);
        dueWrong(x, 7, 7, 0, 0, 7, 7, 0, 0, 7, 0, 7, 0, 7, 0);
        dueWrong(x, 7, 7, 0, 0, 7, 7, 0, 0, 7, 0, 7, 0, 0, 6);
        write(x, 6, 6, 6, 6, 6, 0);
        dueSearch(x, 0);
        write(x, 7, 0, 6, 6, 6, 6, 0);
        dueSearch(x, 0, 1);
        write(x, 7, 7, 7, 7, 7, 0, 0, 0, 0, 0, 0);
        dueSearch(x, 0, 1);
        write(x, 6, 7, 7, 7, 0, 0, 7, 0, 0, 8, 0, 7, 0, 0);
        due.is("fourteen tokens", x.count(2), 14);
        dueSearch(x, 0);
    }

    private static void found() {
        due.in("12 found");
        MailViews x = withMessages(DELETED, SEEN, SEEN);
        x.select(0, 0, false);
        x.criterion(1, SEEN, 0);
        dueSearch(x, 0, 2, 3);
        for (int k : new int[] {-1, 2, LEAST, MOST}) {
            due.is("found(" + k + ")", x.found(k), REFUSED);
        }
        x.search(0);
        dueFound(x, 2, 3);
        x.criterion(0, 0, 0);
        x.search(3);
        dueFound(x, 2, 3);
        x.expunge(0);
        dueFound(x, 2, 3);
        x.close(0);
        dueFound(x, 2, 3);
        x.select(1, 1, false);
        dueSearch(x, 1);
    }

    private static void sync() {
        due.in("13 sync");
        MailViews x = new MailViews();
        due.is("of none", x.sync(), 0);
        appendMany(x, 0, 0, 3);
        due.is("durable before", x.count(1), 0);
        due.is("of three", x.sync(), 3);
        due.is("durable then", x.count(1), 3);
        due.is("again", x.sync(), 3);
        due.is("crash has nothing to take back", x.crash(), 3);
        due.is("messages", x.mailbox(0, 0), 3);
        due.is("next UID", x.mailbox(0, 1), 4);
        appendMany(x, 0, 0, 7);
        due.is("seven more are not", x.count(1), 3);
        due.is("crash keeps what was synced", x.crash(), 3);
        due.is("messages", x.mailbox(0, 0), 3);
    }

    private static void eighthChangeMakesDurable() {
        due.in("the eighth change");
        MailViews x = new MailViews();
        appendMany(x, 0, DELETED, 4);
        appendMany(x, 1, 0, 3);
        due.is("seven are not durable", x.count(1), 0);
        x.append(2, 0, 1);
        due.is("eight are", x.count(1), 8);
        x.append(0, DELETED, 1);
        due.is("the ninth is not", x.count(1), 8);
        x.select(0, 1, false);
        for (int many = 0; many < 4; many++) {
            x.store(0, 1, 0, 0);
        }
        due.is("changes", x.count(0), 13);
        x.select(0, 0, false);
        due.is("five removed, the third of them is the eighth", x.expunge(0), 5);
        due.is("durable within the call", x.count(1), 16);
        due.is("changes", x.count(0), 18);
        due.is("crash", x.crash(), 16);
        due.is("two come back", x.mailbox(0, 0), 2);
        dueMessage(x, 0, 0, 4, DELETED, 1);
        dueMessage(x, 0, 1, 5, DELETED, 1);
        due.is("nothing added was lost", x.mailbox(0, 2), 1);
        due.is("the next UID stays", x.mailbox(0, 1), 6);
    }

    private static void crash() {
        due.in("14 crash");
        MailViews x = withMessages(0, DELETED, SEEN, DELETED);
        x.sync();
        x.select(0, 0, false);
        x.select(3, 0, true);
        x.store(0, 1, 0, MARKED);
        x.store(0, 1, 0, DRAFT);
        x.store(0, 4, 1, ANSWERED);
        x.expunge(0);
        x.append(0, 0, 50);
        x.append(0, 0, 60);
        due.is("not durable", x.count(0) - x.count(1), 7);
        due.is("crash", x.crash(), 4);
        due.is("changes", x.count(0), 4);
        due.is("durable", x.count(1), 4);
        due.is("messages", x.mailbox(0, 0), 4);
        dueMessage(x, 0, 0, 1, 0, 10);
        dueMessage(x, 0, 1, 2, DELETED, 20);
        dueMessage(x, 0, 2, 3, SEEN, 30);
        dueMessage(x, 0, 3, 4, DELETED, 40);
        due.is("next UID", x.mailbox(0, 1), 5);
        due.is("validity", x.mailbox(0, 2), 2);
        due.is("sessions", x.mailbox(0, 3), 0);
        for (int s = 0; s < 4; s++) {
            due.is("check(" + s + ")", x.check(s), REFUSED);
            due.is("notice(" + s + ", 0, 0)", x.notice(s, 0, 0), REFUSED);
        }
        due.is("again", x.crash(), 4);
        due.is("validity stays without a loss", x.mailbox(0, 2), 2);
        due.is("a UID is given again", x.append(0, 0, 7), 5);
        due.is("crash", x.crash(), 4);
        due.is("validity", x.mailbox(0, 2), 3);
    }

    private static void crashTakesBackInEachMailbox() {
        due.in("14 crash in each mailbox");
        MailViews x = withMessages(DELETED);
        x.append(1, SEEN, 2);
        x.sync();
        x.append(2, DELETED, 3);
        x.select(0, 2, false);
        x.expunge(0);
        x.select(0, 1, false);
        x.copy(0, 1, 2);
        x.store(0, 1, 0, 0);
        x.select(1, 0, false);
        x.close(1);
        due.is("crash", x.crash(), 2);
        due.is("a removal alone", x.mailbox(0, 2), 1);
        dueMessage(x, 0, 0, 1, DELETED, 10);
        due.is("flags alone", x.mailbox(1, 2), 1);
        dueMessage(x, 1, 0, 1, SEEN, 2);
        due.is("two added, one of them removed", x.mailbox(2, 2), 2);
        due.is("none is left", x.mailbox(2, 0), 0);
        due.is("next UID", x.mailbox(2, 1), 1);
    }

    private static void crashLeavesTheRest() {
        due.in("14 crash leaves the rest");
        MailViews x = withMessages(0, SEEN);
        x.select(0, 0, false);
        x.criterion(0, 0, 0);
        dueSearch(x, 0, 1, 2);
        x.criterion(6, 0, 0);
        due.is("crash", x.crash(), 0);
        dueFound(x, 1, 2);
        due.is("tokens", x.count(2), 1);
        appendMany(x, 0, 0, 7);
        due.is("seven are not durable", x.count(1), 0);
        x.append(0, 0, 1);
        due.is("eight are", x.count(1), 8);
    }

    private static void message() {
        due.in("15 message");
        MailViews x = withMessages(SEEN, DRAFT);
        dueMessage(x, 0, 0, 1, SEEN, 10);
        dueMessage(x, 0, 1, 2, DRAFT, 20);
        for (int k : new int[] {-1, 2, 12, LEAST, MOST}) {
            due.is("k " + k, x.message(0, k, 0), REFUSED);
        }
        for (int what : new int[] {-1, 3, LEAST, MOST}) {
            due.is("what " + what, x.message(0, 0, what), REFUSED);
        }
        for (int m : NO_MAILBOXES) {
            due.is("mailbox " + m, x.message(m, 0, 0), REFUSED);
        }
        due.is("an empty mailbox", x.message(1, 0, 0), REFUSED);
    }

    private static void seen() {
        due.in("16 seen");
        MailViews x = withMessages(DELETED, DRAFT);
        x.select(0, 0, false);
        x.expunge(0);
        due.is("UID", x.seen(0, 1, 0), 2);
        due.is("flags", x.seen(0, 1, 1), DRAFT);
        for (int number : new int[] {0, -1, 2, LEAST, MOST}) {
            due.is("number " + number, x.seen(0, number, 0), REFUSED);
        }
        for (int what : new int[] {-1, 2, LEAST, MOST}) {
            due.is("what " + what, x.seen(0, 1, what), REFUSED);
        }
        due.is("without a mailbox", x.seen(1, 1, 0), REFUSED);
        for (int s : NO_SESSIONS) {
            due.is("session " + s, x.seen(s, 1, 0), REFUSED);
        }
    }

    private static void notice() {
        due.in("17 notice");
        MailViews x = withMessages(0);
        x.select(0, 0, false);
        x.select(1, 1, false);
        x.append(0, 0, 2);
        x.check(0);
        dueNotices(x, 0, EXISTS, 2);
        dueNotices(x, 1);
        for (int k : new int[] {-1, 1, LEAST, MOST}) {
            due.is("k " + k, x.notice(0, k, 0), REFUSED);
        }
        for (int what : new int[] {-1, 2, LEAST, MOST}) {
            due.is("what " + what, x.notice(0, 0, what), REFUSED);
        }
        for (int s : NO_SESSIONS) {
            due.is("session " + s, x.notice(s, 0, 0), REFUSED);
        }
        x.close(0);
        due.is("without a mailbox", x.notice(0, 0, 0), REFUSED);
    }

    private static void mailbox() {
        due.in("18 mailbox");
        MailViews x = withMessages(0, DELETED, 0);
        x.select(0, 0, false);
        x.select(1, 0, true);
        x.select(2, 0, true);
        x.select(3, 2, true);
        x.expunge(0);
        due.is("messages", x.mailbox(0, 0), 2);
        due.is("next UID", x.mailbox(0, 1), 4);
        due.is("validity", x.mailbox(0, 2), 1);
        due.is("sessions", x.mailbox(0, 3), 3);
        due.is("sessions of 1", x.mailbox(1, 3), 0);
        due.is("sessions of 2", x.mailbox(2, 3), 1);
        x.close(1);
        due.is("sessions after close", x.mailbox(0, 3), 2);
        for (int what : new int[] {-1, 4, LEAST, MOST}) {
            due.is("what " + what, x.mailbox(0, what), REFUSED);
        }
        for (int m : NO_MAILBOXES) {
            due.is("mailbox " + m, x.mailbox(m, 0), REFUSED);
            due.is("sessions of mailbox " + m, x.mailbox(m, 3), REFUSED);
        }
    }

    private static void count() {
        due.in("19 count");
        MailViews x = withMessages(0, 0, 0);
        x.sync();
        x.append(1, 0, 1);
        x.select(0, 0, false);
        x.criterion(5, 2, 3);
        x.search(0);
        x.criterion(6, 0, 0);
        due.is("changes", x.count(0), 4);
        due.is("durable", x.count(1), 3);
        due.is("tokens", x.count(2), 1);
        due.is("found", x.count(3), 2);
        for (int what : new int[] {-1, 4, LEAST, MOST}) {
            due.is("count(" + what + ")", x.count(what), REFUSED);
        }
    }

    /** A view of 24, most of them gone, that takes in what it had no room for when it has. */
    private static void viewIsFull() {
        due.in("a view that is full");
        MailViews x = new MailViews();
        x.append(0, 0, 1);
        x.select(0, 0, false);
        x.select(1, 0, false);
        for (int round = 0; round < 2; round++) {
            appendMany(x, 0, DELETED, 11);
            x.store(0, 1, 0, 0);
            x.expunge(1);
        }
        due.is("the last of the view", x.seen(0, 23, 0), 23);
        x.append(0, SEEN, 1);
        x.append(0, SEEN, 1);
        x.append(0, SEEN, 1);
        due.is("one has room", x.store(0, 1, 0, 0), 0);
        dueNotices(x, 0, EXISTS, 24);
        due.is("the last of the view", x.seen(0, 24, 0), 24);
        due.is("none has room", x.store(0, 1, 0, 0), 0);
        dueNotices(x, 0);
        x.criterion(0, 0, 0);
        dueSearch(x, 0, 1, 24);
        due.is("22 leave, two come", x.check(0), 23);
        due.is("the last that leaves", x.notice(0, 21, 1), 2);
        due.is("kind", x.notice(0, 22, 0), EXISTS);
        due.is("number", x.notice(0, 22, 1), 4);
        dueView(x, 0, 1, 24, 25, 26);
    }

    /** The highest UID of a view counts also when the message that bore it has left. */
    private static void viewForgetsNoUid() {
        due.in("UIDs above all that were in the view");
        MailViews x = withMessages(0, DELETED);
        x.select(0, 0, false);
        x.select(1, 0, false);
        x.expunge(1);
        due.is("it leaves", x.check(0), 1);
        due.is("nothing comes", x.check(0), 0);
        dueView(x, 0, 1);
        x.append(0, 0, 1);
        due.is("the next comes", x.check(0), 1);
        dueView(x, 0, 1, 3);
    }
}
