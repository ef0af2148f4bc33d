import java.util.ArrayList;
import java.util.List;

/**
 * "A call that answers a negative number changes nothing, but for search what it says": one of two equal objects
 * gets the call; then both are looked at, worked with, let crash, and looked at again.
 */
public final class RefusalsTest extends TestBase {
    private static final int MOST_CALLS = 512;
    /** More than busyWithFourteenTokens() needs to make one object. */
    private static final int CALLS_TO_MAKE = 60;

    interface Call {
        int on(MailViews x);
    }

    /** Counts the calls of both objects, so that none is asked after its 512th. */
    private static int calls;

    public static void main(String[] args) {
        appendsAndSelects();
        callsOfASession();
        callsOfAMessage();
        stores();
        copies();
        criteriaAndSearches();
        looks();
        wrongEmptiesTheRowAlone();
        due.end();
    }

    /**
     * Mailbox 1 is full, mailbox 2 empty. Session 0 was told a notice, found two messages and has not yet been told
     * of one gone (2), one with other flags (3) and a new one; session 2 is to read only, session 3 has no mailbox.
     * Some changes are not durable, and two tokens are written.
     */
    private static MailViews busy() {
        MailViews x = new MailViews();
        appendMany(x, 1, SEEN, 12);
        x.sync();
        x.append(0, SEEN, 10);
        x.append(0, DELETED, 20);
        x.select(0, 0, false);
        x.append(0, 0, 30);
        x.criterion(ALL, 0, 0);
        x.search(0);
        x.select(1, 0, false);
        x.select(2, 0, true);
        x.expunge(1);
        x.store(1, 2, 0, MARKED);
        x.append(0, DRAFT, 40);
        x.criterion(NOT, 1, 2);
        x.criterion(LARGER, 30, 4);
        return x;
    }

    private static MailViews busyWithFourteenTokens() {
        MailViews x = busy();
        appendTokens(x, 12);
        return x;
    }

    private static void appendTokens(MailViews x, int many) {
        for (int at = 0; at < many; at++) {
            x.criterion(ALL, 0, 0);
        }
    }

    private static int asked(int answer) {
        calls++;
        return answer;
    }

    private static void lookAtMailbox(MailViews x, int m, List<Integer> saw) {
        for (int what = 0; what < 4; what++) {
            saw.add(asked(x.mailbox(m, what)));
        }
        for (int k = 0; k < x.mailbox(m, 0); k++) {
            for (int what = 0; what < 3; what++) {
                saw.add(asked(x.message(m, k, what)));
            }
            calls++;
        }
    }

    private static void lookAtSession(MailViews x, int s, List<Integer> saw) {
        for (int number = 1; number <= 24 && asked(x.seen(s, number, 0)) >= 0; number++) {
            saw.add(asked(x.seen(s, number, 0)));
            saw.add(asked(x.seen(s, number, 1)));
        }
        saw.add(-9);
        for (int k = 0; k < 49 && asked(x.notice(s, k, 0)) >= 0; k++) {
            saw.add(asked(x.notice(s, k, 0)));
            saw.add(asked(x.notice(s, k, 1)));
        }
    }

    /** All that the calls which only look can see, but for the tokens. */
    private static List<Integer> look(MailViews x) {
        List<Integer> saw = new ArrayList<>();
        for (int what : new int[] {0, 1, 3}) {
            saw.add(asked(x.count(what)));
        }
        for (int k = 0; k < 24 && asked(x.found(k)) >= 0; k++) {
            saw.add(asked(x.found(k)));
        }
        for (int m = 0; m < 3; m++) {
            lookAtMailbox(x, m, saw);
        }
        for (int s = 0; s < 4; s++) {
            lookAtSession(x, s, saw);
        }
        return saw;
    }

    /** What a look cannot see: to read only or not, which UIDs were in a view, what a crash takes back. */
    private static List<Integer> workWith(MailViews x) {
        List<Integer> saw = new ArrayList<>();
        saw.add(asked(x.search(0)));
        saw.add(asked(x.expunge(2)));
        saw.add(asked(x.store(1, 1, 1, DRAFT)));
        for (int s = 0; s < 4; s++) {
            saw.add(asked(x.check(s)));
            lookAtSession(x, s, saw);
        }
        saw.add(asked(x.close(1)));
        saw.add(asked(x.crash()));
        for (int m = 0; m < 3; m++) {
            lookAtMailbox(x, m, saw);
        }
        saw.add(asked(x.append(0, 0, 1)));
        return saw;
    }

    private static void changesNothing(String name, int answer, Call call) {
        changesNothing(name, answer, call, busy(), busy());
    }

    private static void changesNothing(String name, int answer, Call call, MailViews x, MailViews y) {
        due.in("a negative answer changes nothing: " + name);
        calls = 2 * CALLS_TO_MAKE;
        due.is(name, call.on(x), answer);
        due.is("tokens", x.count(2), y.count(2));
        due.holds("all looks as before", look(x).equals(look(y)));
        due.holds("all works as before", workWith(x).equals(workWith(y)));
        due.holds("no object is asked too often", calls / 2 <= MOST_CALLS);
    }

    private static void appendsAndSelects() {
        changesNothing("append(-1, 0, 1)", REFUSED, x -> x.append(-1, 0, 1));
        changesNothing("append(3, 0, 1)", REFUSED, x -> x.append(3, 0, 1));
        changesNothing("append(0, -1, 1)", REFUSED, x -> x.append(0, -1, 1));
        changesNothing("append(0, 32, 1)", REFUSED, x -> x.append(0, 32, 1));
        changesNothing("append(0, 0, 0)", REFUSED, x -> x.append(0, 0, 0));
        changesNothing("append(0, 0, 1000)", REFUSED, x -> x.append(0, 0, 1000));
        changesNothing("append(1, 0, 1)", FULL, x -> x.append(1, 0, 1));
        changesNothing("append(1, 32, 1)", REFUSED, x -> x.append(1, 32, 1));
        changesNothing("select(-1, 0, true)", REFUSED, x -> x.select(-1, 0, true));
        changesNothing("select(4, 0, true)", REFUSED, x -> x.select(4, 0, true));
        changesNothing("select(0, -1, true)", REFUSED, x -> x.select(0, -1, true));
        changesNothing("select(0, 3, true)", REFUSED, x -> x.select(0, 3, true));
        changesNothing("select(2, 3, false)", REFUSED, x -> x.select(2, 3, false));
        changesNothing("select(3, 3, false)", REFUSED, x -> x.select(3, 3, false));
    }

    private static void callsOfASession() {
        for (int s : new int[] {-1, 3, 4, LEAST, MOST}) {
            changesNothing("close(" + s + ")", REFUSED, x -> x.close(s));
            changesNothing("check(" + s + ")", REFUSED, x -> x.check(s));
            changesNothing("fetch(" + s + ", 1)", REFUSED, x -> x.fetch(s, 1));
            changesNothing("store(" + s + ", 1, 0, 0)", REFUSED, x -> x.store(s, 1, 0, 0));
            changesNothing("expunge(" + s + ")", REFUSED, x -> x.expunge(s));
            changesNothing("copy(" + s + ", 1, 0)", REFUSED, x -> x.copy(s, 1, 0));
            changesNothing("search(" + s + ")", REFUSED, x -> x.search(s));
            changesNothing("seen(" + s + ", 1, 0)", REFUSED, x -> x.seen(s, 1, 0));
            changesNothing("notice(" + s + ", 0, 0)", REFUSED, x -> x.notice(s, 0, 0));
        }
        changesNothing("expunge(2)", READ_ONLY, x -> x.expunge(2));
    }

    private static void callsOfAMessage() {
        for (int number : new int[] {-1, 0, 4, LEAST, MOST}) {
            changesNothing("fetch(0, " + number + ")", REFUSED, x -> x.fetch(0, number));
            changesNothing("store(0, " + number + ", 0, 0)", REFUSED, x -> x.store(0, number, 0, 0));
            changesNothing("store(2, " + number + ", 0, 0)", REFUSED, x -> x.store(2, number, 0, 0));
            changesNothing("copy(0, " + number + ", 2)", REFUSED, x -> x.copy(0, number, 2));
            changesNothing("copy(0, " + number + ", 1)", REFUSED, x -> x.copy(0, number, 1));
        }
        changesNothing("fetch(0, 2)", GONE, x -> x.fetch(0, 2));
        changesNothing("fetch(2, 2)", GONE, x -> x.fetch(2, 2));
    }

    private static void stores() {
        changesNothing("store(0, 2, 0, 0)", GONE, x -> x.store(0, 2, 0, 0));
        changesNothing("store(2, 1, 0, 0)", READ_ONLY, x -> x.store(2, 1, 0, 0));
        changesNothing("store(2, 2, 0, 0)", READ_ONLY, x -> x.store(2, 2, 0, 0));
        for (int s = 0; s <= 2; s += 2) {
            for (int number = 1; number <= 2; number++) {
                int it = s;
                int n = number;
                String start = "store(" + s + ", " + number;
                changesNothing(start + ", -1, 0)", REFUSED, x -> x.store(it, n, -1, 0));
                changesNothing(start + ", 3, 0)", REFUSED, x -> x.store(it, n, 3, 0));
                changesNothing(start + ", 0, -1)", REFUSED, x -> x.store(it, n, 0, -1));
                changesNothing(start + ", 0, 32)", REFUSED, x -> x.store(it, n, 0, 32));
                changesNothing(start + ", 1, 32)", REFUSED, x -> x.store(it, n, 1, 32));
                changesNothing(start + ", 2, -1)", REFUSED, x -> x.store(it, n, 2, -1));
            }
        }
    }

    private static void copies() {
        changesNothing("copy(0, 2, 2)", GONE, x -> x.copy(0, 2, 2));
        changesNothing("copy(0, 2, 1)", GONE, x -> x.copy(0, 2, 1));
        changesNothing("copy(0, 1, 1)", FULL, x -> x.copy(0, 1, 1));
        changesNothing("copy(2, 3, 1)", FULL, x -> x.copy(2, 3, 1));
        changesNothing("copy(0, 1, -1)", REFUSED, x -> x.copy(0, 1, -1));
        changesNothing("copy(0, 1, 3)", REFUSED, x -> x.copy(0, 1, 3));
        changesNothing("copy(0, 2, 3)", REFUSED, x -> x.copy(0, 2, 3));
    }

    private static void criteriaAndSearches() {
        for (int op : new int[] {-1, 9, LEAST, MOST}) {
            changesNothing("criterion(" + op + ", 0, 0)", REFUSED, x -> x.criterion(op, 0, 0));
            changesNothing("criterion(" + op + ", 0, 0) of 14", REFUSED, x -> x.criterion(op, 0, 0),
                busyWithFourteenTokens(), busyWithFourteenTokens());
        }
        changesNothing("criterion(0, 0, 0) of 14", FULL, x -> x.criterion(ALL, 0, 0),
            busyWithFourteenTokens(), busyWithFourteenTokens());
        changesNothing("search(3) of 14", REFUSED, x -> x.search(3),
            busyWithFourteenTokens(), busyWithFourteenTokens());
    }

    private static void looks() {
        for (int no : new int[] {-1, 24, LEAST, MOST}) {
            changesNothing("found(" + no + ")", REFUSED, x -> x.found(no));
            changesNothing("message(0, " + no + ", 0)", REFUSED, x -> x.message(0, no, 0));
            changesNothing("message(0, 0, " + no + ")", REFUSED, x -> x.message(0, 0, no));
            changesNothing("message(" + no + ", 0, 0)", REFUSED, x -> x.message(no, 0, 0));
            changesNothing("seen(0, " + no + ", 0)", REFUSED, x -> x.seen(0, no, 0));
            changesNothing("seen(0, 1, " + no + ")", REFUSED, x -> x.seen(0, 1, no));
            changesNothing("notice(0, " + no + ", 0)", REFUSED, x -> x.notice(0, no, 0));
            changesNothing("notice(0, 0, " + no + ")", REFUSED, x -> x.notice(0, 0, no));
            changesNothing("mailbox(0, " + no + ")", REFUSED, x -> x.mailbox(0, no));
            changesNothing("mailbox(" + no + ", 0)", REFUSED, x -> x.mailbox(no, 0));
            changesNothing("count(" + no + ")", REFUSED, x -> x.count(no));
        }
    }

    /** The other object's row is emptied by another session's search, so that both go on alike. */
    private static void wrongEmptiesTheRowAlone() {
        due.in("search that is WRONG changes nothing but that the criterion is empty");
        MailViews x = busyWithFourteenTokens();
        MailViews y = busyWithFourteenTokens();
        due.is("search", x.search(0), WRONG);
        due.is("tokens", x.count(2), 0);
        due.holds("all looks as before", look(x).equals(look(y)));
        due.is("search", y.search(2), WRONG);
        due.holds("all works as before", workWith(x).equals(workWith(y)));
        x.criterion(ALL, 0, 0);
        due.is("one token is written", x.count(2), 1);
    }
}
