/** What the tests share: the words of the document, ways to fill an object, and ways to look at it. */
abstract class TestBase {
    static final int REFUSED = -1;
    static final int FULL = -2;
    static final int GONE = -3;
    static final int READ_ONLY = -4;
    static final int WRONG = -5;
    static final int EXPUNGED = 1;
    static final int EXISTS = 2;
    static final int FLAGGED = 3;

    static final int SEEN = 1;
    static final int ANSWERED = 2;
    static final int MARKED = 4;
    static final int DELETED = 8;
    static final int DRAFT = 16;

    static final int ALL = 0;
    static final int HAS = 1;
    static final int LARGER = 2;
    static final int SMALLER = 3;
    static final int UIDS = 4;
    static final int NUMBERS = 5;
    static final int NOT = 6;
    static final int BOTH = 7;
    static final int EITHER = 8;

    static final int LEAST = Integer.MIN_VALUE;
    static final int MOST = Integer.MAX_VALUE;
    static final int[] NO_SESSIONS = {-1, 4, LEAST, MOST};
    static final int[] NO_MAILBOXES = {-1, 3, LEAST, MOST};
    static final int[] NO_FLAGS = {-1, 32, LEAST, MOST};
    static final int[] NO_SIZES = {0, -1, 1000, LEAST, MOST};

    static final Due due = new Due();

    /** Messages of the sizes 10, 20, .. in mailbox 0. */
    static MailViews withMessages(int... flags) {
        MailViews x = new MailViews();
        for (int at = 0; at < flags.length; at++) {
            x.append(0, flags[at], 10 * (at + 1));
        }
        return x;
    }

    static void appendMany(MailViews x, int mailbox, int flags, int many) {
        for (int at = 0; at < many; at++) {
            x.append(mailbox, flags, 1);
        }
    }

    static void write(MailViews x, int... ops) {
        for (int op : ops) {
            x.criterion(op, 0, 0);
        }
    }

    static void dueMessage(MailViews x, int mailbox, int k, int uid, int flags, int size) {
        due.is("message(" + mailbox + ", " + k + ", 0)", x.message(mailbox, k, 0), uid);
        due.is("message(" + mailbox + ", " + k + ", 1)", x.message(mailbox, k, 1), flags);
        due.is("message(" + mailbox + ", " + k + ", 2)", x.message(mailbox, k, 2), size);
    }

    /** The UIDs of all messages of a mailbox. */
    static void dueMessages(MailViews x, int mailbox, int... uids) {
        due.is("mailbox(" + mailbox + ", 0)", x.mailbox(mailbox, 0), uids.length);
        for (int k = 0; k < uids.length; k++) {
            due.is("message(" + mailbox + ", " + k + ", 0)", x.message(mailbox, k, 0), uids[k]);
        }
        due.is("message behind the last", x.message(mailbox, uids.length, 0), REFUSED);
    }

    /** Kind and number of each notice, and that there is no more. */
    static void dueNotices(MailViews x, int session, int... pairs) {
        for (int at = 0; at < pairs.length; at += 2) {
            int k = at / 2;
            due.is("notice(" + session + ", " + k + ", 0)", x.notice(session, k, 0), pairs[at]);
            due.is("notice(" + session + ", " + k + ", 1)", x.notice(session, k, 1), pairs[at + 1]);
        }
        due.is("notice behind the last", x.notice(session, pairs.length / 2, 0), REFUSED);
    }

    static void dueView(MailViews x, int session, int... uids) {
        for (int at = 0; at < uids.length; at++) {
            due.is("seen(" + session + ", " + (at + 1) + ", 0)", x.seen(session, at + 1, 0), uids[at]);
        }
        due.is("seen behind the last", x.seen(session, uids.length + 1, 0), REFUSED);
    }

    static void dueKnown(MailViews x, int session, int... flags) {
        for (int at = 0; at < flags.length; at++) {
            due.is("seen(" + session + ", " + (at + 1) + ", 1)", x.seen(session, at + 1, 1), flags[at]);
        }
        due.is("known behind the last", x.seen(session, flags.length + 1, 1), REFUSED);
    }

    static void dueSearch(MailViews x, int session, int... numbers) {
        due.is("search(" + session + ")", x.search(session), numbers.length);
        dueFound(x, numbers);
    }

    static void dueFound(MailViews x, int... numbers) {
        due.is("count(3)", x.count(3), numbers.length);
        for (int at = 0; at < numbers.length; at++) {
            due.is("found(" + at + ")", x.found(at), numbers[at]);
        }
        due.is("found behind the last", x.found(numbers.length), REFUSED);
    }

    static void dueWrong(MailViews x, int... ops) {
        write(x, ops);
        due.is("search of " + java.util.Arrays.toString(ops), x.search(0), WRONG);
        due.is("the row is empty", x.count(2), 0);
    }

    /** Of all changes, and of those that are durable. */
    static void dueChanges(MailViews x, int changes, int durable) {
        due.is("count(0)", x.count(0), changes);
        due.is("count(1)", x.count(1), durable);
    }
}
