import java.util.ArrayList;
import java.util.List;
import java.util.Map;
import java.util.TreeMap;

/**
 * The document again, in another way: a mailbox is what the history of all changes makes of it, and a
 * crash cuts the history short. Slow and plain, to compare MailViews with.
 */
final class Model {
    private static final int REFUSED = -1;
    private static final int FULL = -2;
    private static final int GONE = -3;
    private static final int READ_ONLY = -4;
    private static final int WRONG = -5;

    enum Kind { ADDED, REMOVED, SET }

    record Change(Kind kind, int box, int uid, int flags, int size) { }

    record Message(int uid, int flags, int size) { }

    record Notice(int kind, int number) { }

    record Token(int op, int a, int b) { }

    private static final class View {
        int box;
        boolean readOnly;
        final List<Integer> uids = new ArrayList<>();
        final Map<Integer, Integer> known = new TreeMap<>();
        final List<Integer> everSeen = new ArrayList<>();
        List<Notice> told = new ArrayList<>();
    }

    private final List<Change> history = new ArrayList<>();
    private final int[] validity = {1, 1, 1};
    private final View[] views = new View[4];
    private List<Token> tokens = new ArrayList<>();
    private List<Integer> found = new ArrayList<>();
    private int durable = 0;

    private final List<TreeMap<Integer, Message>> replayed = new ArrayList<>();
    private boolean stale = true;

    private TreeMap<Integer, Message> box(int box) {
        if (stale) {
            replay();
            stale = false;
        }
        return replayed.get(box);
    }

    private void replay() {
        replayed.clear();
        for (int box = 0; box < 3; box++) {
            replayed.add(new TreeMap<>());
        }
        for (Change c : history) {
            TreeMap<Integer, Message> box = replayed.get(c.box);
            switch (c.kind) {
                case ADDED -> box.put(c.uid, new Message(c.uid, c.flags, c.size));
                case REMOVED -> box.remove(c.uid);
                case SET -> box.put(c.uid, new Message(c.uid, c.flags, box.get(c.uid).size));
            }
        }
    }

    private int nextUid(int box) {
        return 1 + (int) history.stream().filter(c -> c.kind == Kind.ADDED && c.box == box).count();
    }

    private void change(Kind kind, int box, int uid, int flags, int size) {
        history.add(new Change(kind, box, uid, flags, size));
        stale = true;
        if (history.size() - durable >= 8) {
            durable = history.size();
        }
    }

    private static boolean in(int x, int from, int to) {
        return from <= x && x <= to;
    }

    private View view(int session) {
        return in(session, 0, 3) ? views[session] : null;
    }

    boolean hasMailbox(int session) {
        return view(session) != null;
    }

    int viewLength(int session) {
        return hasMailbox(session) ? view(session).uids.size() : 0;
    }

    private static boolean has(View v, int number) {
        return v != null && in(number, 1, v.uids.size());
    }

    private Message at(View v, int number) {
        return box(v.box).get(v.uids.get(number - 1));
    }

    private int add(int box, int flags, int size) {
        if (box(box).size() == 12) {
            return FULL;
        }
        int uid = nextUid(box);
        change(Kind.ADDED, box, uid, flags, size);
        return uid;
    }

    private int removeDeleted(int box) {
        int removed = 0;
        for (Message m : new ArrayList<>(box(box).values())) {
            if ((m.flags & 8) == 8) {
                change(Kind.REMOVED, box, m.uid, 0, 0);
                removed++;
            }
        }
        return removed;
    }

    private void takeIn(View v, Message m) {
        v.uids.add(m.uid);
        v.known.put(m.uid, m.flags);
        v.everSeen.add(m.uid);
    }

    private void update(View v, boolean removals) {
        v.told = new ArrayList<>();
        Map<Integer, Message> box = box(v.box);
        if (removals) {
            for (Integer uid : new ArrayList<>(v.uids)) {
                if (!box.containsKey(uid)) {
                    v.told.add(new Notice(1, v.uids.indexOf(uid) + 1));
                    v.uids.remove(uid);
                }
            }
        }
        int above = v.everSeen.stream().mapToInt(uid -> uid).max().orElse(0);
        boolean any = false;
        for (Message m : box.values()) {
            if (m.uid > above && v.uids.size() < 24) {
                takeIn(v, m);
                any = true;
            }
        }
        if (any) {
            v.told.add(new Notice(2, v.uids.size()));
        }
        for (int uid : v.uids) {
            if (box.containsKey(uid) && box.get(uid).flags != v.known.get(uid)) {
                v.known.put(uid, box.get(uid).flags);
                v.told.add(new Notice(3, v.uids.indexOf(uid) + 1));
            }
        }
    }

    int append(int box, int flags, int size) {
        return in(box, 0, 2) && in(flags, 0, 31) && in(size, 1, 999) ? add(box, flags, size) : REFUSED;
    }

    int select(int session, int box, boolean readOnly) {
        if (!in(session, 0, 3) || !in(box, 0, 2)) {
            return REFUSED;
        }
        View v = new View();
        v.box = box;
        v.readOnly = readOnly;
        box(box).values().forEach(m -> takeIn(v, m));
        views[session] = v;
        return v.uids.size();
    }

    int close(int session) {
        View v = view(session);
        if (v == null) {
            return REFUSED;
        }
        views[session] = null;
        return v.readOnly ? 0 : removeDeleted(v.box);
    }

    int check(int session) {
        View v = view(session);
        if (v == null) {
            return REFUSED;
        }
        update(v, true);
        return v.told.size();
    }

    int fetch(int session, int number) {
        View v = view(session);
        if (!has(v, number)) {
            return REFUSED;
        }
        Message m = at(v, number);
        if (m == null) {
            return GONE;
        }
        v.known.put(m.uid, m.flags);
        return m.flags;
    }

    int store(int session, int number, int mode, int flags) {
        View v = view(session);
        if (!has(v, number) || !in(mode, 0, 2) || !in(flags, 0, 31)) {
            return REFUSED;
        }
        if (v.readOnly) {
            return READ_ONLY;
        }
        Message m = at(v, number);
        if (m == null) {
            return GONE;
        }
        int to = mode == 0 ? flags : mode == 1 ? m.flags | flags : m.flags - (m.flags & flags);
        change(Kind.SET, v.box, m.uid, to, 0);
        v.known.put(m.uid, to);
        update(v, false);
        return to;
    }

    int expunge(int session) {
        View v = view(session);
        if (v == null) {
            return REFUSED;
        }
        if (v.readOnly) {
            return READ_ONLY;
        }
        int removed = removeDeleted(v.box);
        update(v, true);
        return removed;
    }

    int copy(int session, int number, int box) {
        View v = view(session);
        if (!has(v, number) || !in(box, 0, 2)) {
            return REFUSED;
        }
        Message m = at(v, number);
        if (m == null) {
            return GONE;
        }
        int uid = add(box, m.flags, m.size);
        if (uid > 0) {
            update(v, true);
        }
        return uid;
    }

    int criterion(int op, int a, int b) {
        if (!in(op, 0, 8)) {
            return REFUSED;
        }
        if (tokens.size() == 14) {
            return FULL;
        }
        tokens.add(new Token(op, a, b));
        return tokens.size();
    }

    /** Where the criterion at a token ends; -1 if there is none or a token stands too deep. */
    private static int end(List<Token> row, int at, int around) {
        if (at < 0 || at >= row.size() || around > 5) {
            return -1;
        }
        int parts = row.get(at).op < 6 ? 0 : row.get(at).op == 6 ? 1 : 2;
        int next = at + 1;
        for (int part = 0; part < parts; part++) {
            next = end(row, next, around + 1);
        }
        return next;
    }

    private static boolean fulfils(List<Token> row, int at, Message m, int number) {
        Token t = row.get(at);
        return switch (t.op) {
            case 0 -> true;
            case 1 -> (m.flags & t.a) != 0;
            case 2 -> m.size > t.a;
            case 3 -> m.size < t.a;
            case 4 -> in(m.uid, t.a, t.b);
            case 5 -> in(number, t.a, t.b);
            case 6 -> !fulfils(row, at + 1, m, number);
            case 7 -> fulfils(row, at + 1, m, number) && fulfils(row, end(row, at + 1, 0), m, number);
            default -> fulfils(row, at + 1, m, number) || fulfils(row, end(row, at + 1, 0), m, number);
        };
    }

    int search(int session) {
        View v = view(session);
        if (v == null) {
            return REFUSED;
        }
        List<Token> row = tokens;
        tokens = new ArrayList<>();
        if (row.isEmpty() || end(row, 0, 0) != row.size()) {
            return WRONG;
        }
        found = new ArrayList<>();
        for (int number = 1; number <= v.uids.size(); number++) {
            Message m = at(v, number);
            if (m != null && fulfils(row, 0, m, number)) {
                found.add(number);
            }
        }
        update(v, false);
        return found.size();
    }

    int found(int k) {
        return in(k, 0, found.size() - 1) ? found.get(k) : REFUSED;
    }

    int sync() {
        durable = history.size();
        return durable;
    }

    int crash() {
        for (int session = 0; session < 4; session++) {
            views[session] = null;
        }
        List<Change> lost = history.subList(durable, history.size());
        for (int box = 0; box < 3; box++) {
            int it = box;
            if (lost.stream().anyMatch(c -> c.kind == Kind.ADDED && c.box == it)) {
                validity[box]++;
            }
        }
        lost.clear();
        stale = true;
        return history.size();
    }

    int message(int box, int k, int what) {
        if (!in(box, 0, 2) || !in(k, 0, box(box).size() - 1) || !in(what, 0, 2)) {
            return REFUSED;
        }
        Message m = new ArrayList<>(box(box).values()).get(k);
        return what == 0 ? m.uid : what == 1 ? m.flags : m.size;
    }

    int seen(int session, int number, int what) {
        View v = view(session);
        if (!has(v, number) || !in(what, 0, 1)) {
            return REFUSED;
        }
        int uid = v.uids.get(number - 1);
        return what == 0 ? uid : v.known.get(uid);
    }

    int notice(int session, int k, int what) {
        View v = view(session);
        if (v == null || !in(k, 0, v.told.size() - 1) || !in(what, 0, 1)) {
            return REFUSED;
        }
        return what == 0 ? v.told.get(k).kind : v.told.get(k).number;
    }

    int mailbox(int box, int what) {
        if (!in(box, 0, 2) || !in(what, 0, 3)) {
            return REFUSED;
        }
        int having = 0;
        for (View v : views) {
            having += v != null && v.box == box ? 1 : 0;
        }
        return new int[] {box(box).size(), nextUid(box), validity[box], having}[what];
    }

    int count(int what) {
        return in(what, 0, 3)
            ? new int[] {history.size(), durable, tokens.size(), found.size()}[what] : REFUSED;
    }
}
