import java.util.Random;
import java.util.TreeMap;

/**
 * Random runs of at most 512 calls, the same every time, on MailViews and on the Model: every answer must be the
 * same. At the end it looks that the runs came to the rare places, so that the comparison means something.
 */
public final class ModelTest {
    private static final int RUNS = 5000;
    private static final int CALLS = 512;
    /** A crash with a look at all messages; every call on MailViews is one answer looked at. */
    private static final int DEAREST_STEP = 140;
    private static final int CHANGING = 13;
    private static final int KINDS = 18;
    private static final int[] ODD = {-1, 0, 3, 4, 13, 25, 32, 1000, Integer.MIN_VALUE, Integer.MAX_VALUE};

    private final Due due = new Due();
    private final TreeMap<String, Integer> places = new TreeMap<>();
    private Random random;
    private MailViews x;
    private Model y;
    private int[] weights;
    private boolean tidyRun;
    private boolean patientRun;
    private int oddEvery;

    public static void main(String[] args) {
        ModelTest test = new ModelTest();
        for (int run = 0; run < RUNS && test.due.wrongCount() == 0; run++) {
            test.oneRun(run);
        }
        test.rarePlaces();
        test.due.end();
    }

    private void oneRun(int run) {
        random = new Random(run);
        x = new MailViews();
        y = new Model();
        tidyRun = random.nextBoolean();
        patientRun = random.nextInt(3) == 0;
        oddEvery = random.nextInt(6) == 0 ? 5 : 60;
        weights = new int[KINDS];
        for (int kind = 0; kind < KINDS; kind++) {
            weights[kind] = kind < CHANGING ? 1 + random.nextInt(30) : patientRun ? 1 : 4;
        }
        weights[0] += patientRun ? 60 : 15;
        weights[2] = 1 + weights[2] / 4;
        weights[5] *= 2;
        weights[12] = patientRun ? 0 : random.nextInt(4);
        int first = due.askedCount();
        int step = 0;
        while (due.askedCount() - first <= CALLS - DEAREST_STEP && due.wrongCount() == 0) {
            due.in("run " + run + ", step " + step);
            step++;
            if (tidyRun && random.nextInt(25) == 0) {
                goodCriterion();
            } else {
                oneCall(kindByWeight());
            }
        }
        due.holds("an object is used for 512 calls", due.askedCount() - first <= CALLS);
    }

    private int kindByWeight() {
        int sum = 0;
        for (int weight : weights) {
            sum += weight;
        }
        int left = random.nextInt(sum);
        int kind = 0;
        while (left >= weights[kind]) {
            left -= weights[kind];
            kind++;
        }
        return kind;
    }

    private int upTo(int from, int to) {
        return random.nextInt(oddEvery) == 0 ? ODD[random.nextInt(ODD.length)] : from + random.nextInt(to - from + 1);
    }

    /** In a patient run session 0 is seldom updated with removals, so that its view grows full. */
    private int session(int kind) {
        boolean drops = kind >= 1 && kind <= 3 || kind == 6 || kind == 7;
        boolean spared = patientRun && drops && y.hasMailbox(0) && random.nextInt(30) > 0;
        return spared ? 1 + random.nextInt(3) : upTo(0, 3);
    }

    /** Mostly the first mailbox, so that sessions meet there. */
    private int box() {
        return random.nextInt(patientRun ? 12 : 3) > 0 ? 0 : upTo(0, 2);
    }

    private int flags() {
        int flags = upTo(0, 31);
        return patientRun || random.nextInt(3) == 0 ? flags | 8 : flags;
    }

    /** Often near the end of the view: there stand those that are not gone. */
    private int number(int session) {
        int length = y.viewLength(session);
        return random.nextInt(3) == 0 ? upTo(1, 24) : length - upTo(0, Math.min(length, 6));
    }

    private void same(String name, int got, int want, int... args) {
        StringBuilder call = new StringBuilder(name).append('(');
        for (int at = 0; at < args.length; at++) {
            call.append(at == 0 ? "" : ", ").append(args[at]);
        }
        due.is(call.append(')').toString(), got, want);
        places.merge(name + (want < 0 ? " " + want : want == 0 ? " 0" : " +"), 1, Integer::sum);
    }

    private void place(String name, boolean reached) {
        places.merge(name, reached ? 1 : 0, Integer::sum);
    }

    private void oneCall(int kind) {
        int s = session(kind);
        int n = number(s);
        int m = box();
        int f = flags();
        boolean needsMailbox = kind >= 2 && kind <= 9 && kind != 8;
        if (needsMailbox && !y.hasMailbox(s) && random.nextInt(6) > 0) {
            select(s, m);
            return;
        }
        switch (kind) {
            case 0 -> { int z = upTo(1, 999); same("append", x.append(m, f, z), y.append(m, f, z), m, f, z); }
            case 1 -> select(s, m);
            case 2 -> same("close", x.close(s), y.close(s), s);
            case 3 -> { same("check", x.check(s), y.check(s), s); told(s); }
            case 4 -> same("fetch", x.fetch(s, n), y.fetch(s, n), s, n);
            case 5 -> { int o = upTo(0, 2); same("store", x.store(s, n, o, f), y.store(s, n, o, f), s, n, o, f); told(s); }
            case 6 -> { same("expunge", x.expunge(s), y.expunge(s), s); told(s); }
            case 7 -> { same("copy", x.copy(s, n, m), y.copy(s, n, m), s, n, m); told(s); }
            case 8 -> token(upTo(0, 8));
            case 9 -> search(s);
            case 10 -> { int k = upTo(0, 12); same("found", x.found(k), y.found(k), k); }
            case 11 -> { if (random.nextInt(4) == 0) { same("sync", x.sync(), y.sync()); } }
            case 12 -> crash();
            case 13 -> { int k = upTo(0, 11); int w = upTo(0, 2); same("message", x.message(m, k, w), y.message(m, k, w), m, k, w); }
            case 14 -> { int w = upTo(0, 1); same("seen", x.seen(s, n, w), y.seen(s, n, w), s, n, w); }
            case 15 -> { int k = upTo(0, 30); int w = upTo(0, 1); same("notice", x.notice(s, k, w), y.notice(s, k, w), s, k, w); }
            case 16 -> { int w = upTo(0, 3); same("mailbox", x.mailbox(m, w), y.mailbox(m, w), m, w); }
            default -> { int w = upTo(0, 3); same("count", x.count(w), y.count(w), w); }
        }
    }

    /** Few of sessions that have a mailbox, or no view would live long enough to be full. */
    private void select(int s, int m) {
        if (!y.hasMailbox(s) || random.nextInt(8) == 0) {
            boolean readOnly = random.nextInt(3) == 0;
            same("select", x.select(s, m, readOnly), y.select(s, m, readOnly), s, m, readOnly ? 1 : 0);
        }
    }

    private void told(int s) {
        if (random.nextInt(6) > 0) {
            return;
        }
        for (int k = 0; k < 40; k++) {
            int kind = y.notice(s, k, 0);
            due.is("notice(" + s + ", " + k + ", 0)", x.notice(s, k, 0), kind);
            due.is("notice(" + s + ", " + k + ", 1)", x.notice(s, k, 1), y.notice(s, k, 1));
            if (kind < 0) {
                break;
            }
            place("notice of kind " + kind, true);
            place("view filled to 24", kind == 2 && y.notice(s, k, 1) == 24);
        }
    }

    private void token(int op) {
        int a = op == 1 ? upTo(0, 31) : op < 4 ? upTo(1, 999) : upTo(1, 15);
        int b = a + random.nextInt(10) - 1;
        same("criterion", x.criterion(op, a, b), y.criterion(op, a, b), op, a, b);
    }

    private void goodCriterion() {
        int wanted = 1;
        int depth = 0;
        while (wanted > 0 && y.count(2) + wanted < 14) {
            int op = depth < 5 && random.nextInt(3) > 0 ? 6 + random.nextInt(3) : random.nextInt(6);
            token(op);
            wanted += op < 6 ? -1 : op == 6 ? 0 : 1;
            depth += op < 6 ? 0 : 1;
        }
        for (; wanted > 0; wanted--) {
            token(random.nextInt(6));
        }
        search(random.nextInt(4));
    }

    private void search(int s) {
        if (y.count(2) == 0 && random.nextInt(5) > 0) {
            token(random.nextInt(6));
        }
        int tokens = y.count(2);
        int hits = y.search(s);
        same("search", x.search(s), hits, s);
        place("search of ten tokens that finds", tokens >= 10 && hits > 0);
        for (int k = 0; k <= hits; k++) {
            due.is("found(" + k + ")", x.found(k), y.found(k));
        }
        told(s);
    }

    private void crash() {
        int lost = y.count(0) - y.count(1);
        same("crash", x.crash(), y.crash());
        place("crash that takes back seven", lost == 7);
        for (int m = 0; m < 3; m++) {
            for (int what = 0; what < 4; what++) {
                due.is("mailbox(" + m + ", " + what + ")", x.mailbox(m, what), y.mailbox(m, what));
            }
            for (int k = 0; k <= y.mailbox(m, 0); k++) {
                for (int what = 0; what < 3; what++) {
                    due.is("message(" + m + ", " + k + ", " + what + ")", x.message(m, k, what), y.message(m, k, what));
                }
            }
        }
    }

    private void rarePlaces() {
        String[] wanted = {
            "append -1", "append -2", "append +", "select -1", "select 0", "select +", "close -1", "close 0",
            "close +", "check -1", "check 0", "check +", "fetch -1", "fetch -3", "fetch +", "store -1", "store -3",
            "store -4", "store +", "expunge -1", "expunge -4", "expunge +", "copy -1", "copy -2", "copy -3",
            "copy +", "criterion -1", "criterion -2", "search -1", "search -5", "search 0", "search +",
            "notice of kind 1", "notice of kind 2", "notice of kind 3", "view filled to 24",
            "search of ten tokens that finds", "crash that takes back seven"};
        due.in("rare places");
        for (String place : wanted) {
            due.holds(place + " was reached 20 times", places.getOrDefault(place, 0) >= 20);
        }
    }
}
